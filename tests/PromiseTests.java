// What each promise says, by hand: ordinary calls, the edges that the document names, wrong calls.
public final class PromiseTests extends Checks {

  // Writes into a sheet what it should hold in bytes, and judges by it.
  private static void tells(String what, SnuffOfElsewhere x, int evening, int told, int p, int... wits) {
    for (int i = 0; i < wits.length; i++) due(what + " cell " + i, x.cell(told, i, wits[i]), 1);
    due(what, x.judge(evening, told, p), -1);
  }

  private static void p01NewObject() {
    SnuffOfElsewhere x = new SnuffOfElsewhere();
    due("count 0", x.count(0), 0);
    due("count 1", x.count(1), 0);
    due("count 2", x.count(2), 0);
    due("count 3", x.count(3), 1);
    due("count 4", x.count(4), 0);
    due("count 5", x.count(5), 0);
    due("told", x.told(0, 0), -5);
    due("back", x.back(), STATE);
    for (int s = 0; s < 4; s++) due("cell", x.cell(s, 0, 0), -11);
    due("NONE", SnuffOfElsewhere.NONE, -1);
    due("BAD", SnuffOfElsewhere.BAD, BAD);
    due("STATE", SnuffOfElsewhere.STATE, STATE);
    due("FULL", SnuffOfElsewhere.FULL, FULL);
    due("NO", SnuffOfElsewhere.NO, NO);
  }

  private static void p02Count() {
    SnuffOfElsewhere x = of(0, 5, 10, 5, 20, 0);
    due("count 0", x.count(0), 3);
    due("count 2", x.count(2), 3);
    x.pinch(1, 0);
    due("count 2, one is gone", x.count(2), 2);
    x.clock(77);
    due("count 1", x.count(1), 77);
    text(x, "gone 1;gains 1;spills 1;");
    due("count 3", x.count(3), 2);
    due("count 4", x.count(4), 0);
    x.force(1);
    due("count 4, forced", x.count(4), 1);
    feed(x, "abc");
    due("count 5", x.count(5), 3);
    due("count -1", x.count(-1), BAD);
    due("count 6", x.count(6), BAD);
    due("count MOST", x.count(MOST), BAD);
  }

  private static void p03Clock() {
    SnuffOfElsewhere x = of(0, 5);
    x.pinch(0, 4);
    due("clock 999", x.clock(999), 0);
    due("clock 1000", x.clock(1000), BAD);
    due("clock -1", x.clock(-1), BAD);
    due("clock 0", x.clock(0), 999);
    due("clock 5", x.clock(5), 0);
    due("count 1", x.count(1), 5);
    due("left", x.told(0, 13), 7);
    due("where", x.told(0, 12), 4);
  }

  private static void p04Feed() {
    SnuffOfElsewhere x = new SnuffOfElsewhere();
    due("n 0", x.feed(0, 1, 1, 1, 1, 1), BAD);
    due("n 6", x.feed(6, 1, 1, 1, 1, 1), BAD);
    due("a -1", x.feed(5, -1, 1, 1, 1, 1), BAD);
    due("a 256", x.feed(5, 256, 1, 1, 1, 1), BAD);
    due("b", x.feed(1, 1, 256, 1, 1, 1), BAD);
    due("c", x.feed(1, 1, 1, -1, 1, 1), BAD);
    due("d", x.feed(1, 1, 1, 1, 999, 1), BAD);
    due("e", x.feed(1, 1, 1, 1, 1, -7), BAD);
    due("none came", x.count(5), 0);
    due("5", x.feed(5, 0, 255, 0, 255, 0), 5);
    due("3", x.feed(3, 97, 97, 97, 255, 255), 8);
    for (int i = 0; i < 30; i++) due("5 more", x.feed(5, 97, 97, 97, 97, 97), 13 + 5 * i);
    due("no room for 3", x.feed(3, 97, 97, 97, 97, 97), FULL);
    due("none came", x.count(5), 158);
    due("room for 2", x.feed(2, 97, 97, 97, 97, 97), 160);
    due("full", x.feed(1, 97, 97, 97, 97, 97), FULL);
    due("BAD ahead of FULL", x.feed(1, 97, 97, 97, 97, 256), BAD);
    due("fault", x.text(), -100);
    due("empty", x.count(5), 0);
    // the bytes in their order: gone a;
    due("order", x.feed(5, 'g', 'o', 'n', 'e', ' '), 5);
    due("order", x.feed(2, '1', ';', 0, 0, 0), 7);
    due("order", x.text(), -107);
  }

  private static void p05Text() {
    stands("gone 1 ; gains 2 ; spills 3 ;");
    stands("gone 1;gains 2;spills 3;");
    stands("\n gone\n1 ; gains 2 ; spills 3 ; \n ");
    stands("gone 0001 ; gains 9999 ; spills 3 ;");
    stands("gone sort+grains*wit;gains sand-minute;spills more=1;");
    fault("", 0);
    fault("   ", 3);
    fault("gone", 4);
    fault("gone  \n", 7);
    fault("gone ;", 5);
    fault("gains 1 ;", 0);
    fault("gone 1 ; spills", 9);
    fault("gone 1 gains", 7);
    fault("gone 1 ; gains 1 ; spills 1", 27);
    fault("gone 1 ; gains 1 ; spills 1 ; gone", 30);
    fault("gone 1 ; gains 1 ; spills 1 ; 2", 30);
    fault("gone 1 ; gains 1 ; spills 1 ; \t", 30);
    fault("goner 1 ;", 0);
    fault("hone 1 ;", 0);
    fault("gonf 1 ;", 0);
    fault("gone sortz ;", 5);
    fault("gone not x 1 ;", 9);
    fault("gone 1 + 2 x ;", 11);
    fault("gone (a 1) ;", 6);
    fault("gonesort ;", 0);
    fault("gone Sort ;", 5);
    fault("gone \t1 ;", 5);
    fault("gone \u00e9 ;", 5);
    fault("gone 1 / 2 ;", 7);
    fault("gone 1 > 2 ;", 7);
    fault("gone 12345 ;", 5);
    fault("gone 00001 ;", 5);
    fault("gone 3sort ;", 6);
    fault("gone sort3 ;", 9);
    fault("gone sort wit ;", 10);
    fault("gone 1 or ;", 10);
    fault("gone or 1 ;", 5);
    fault("gone 1 and and 1 ;", 11);
    fault("gone 1 + ;", 9);
    fault("gone + 1 ;", 5);
    fault("gone * 1 ;", 5);
    fault("gone 1 * * 1 ;", 9);
    fault("gone 1 < 2 < 3 ;", 11);
    fault("gone 1 < 2 = 3 ;", 11);
    fault("gone 1 = not 1 ;", 9);
    fault("gone 1 + not 1 ;", 9);
    fault("gone - not 1 ;", 7);
    fault("gone not ;", 9);
    fault("gone ( 1 ;", 9);
    fault("gone ( ) ;", 7);
    fault("gone 1 ) ;", 7);
    fault("gone () ;", 6);
    fault("gone (1 < 2 < 3) ;", 12);
    stands("gone (1 < 2) < 3 ; gains 1 < (not 1) ; spills -(not 1) ;");
    stands("gone 1 ; gains not 1 and not 1 or not 1 ; spills 1 < 2 and 2 < 3 ;");
    p05Open();
    p05Full();
    p05Stale();
  }

  // What an earlier text left behind the end is no part of a later one.
  private static void p05Stale() {
    SnuffOfElsewhere x = new SnuffOfElsewhere();
    due("gonex", text(x, "gonex"), -100);
    due("gone", text(x, "gone"), -104);
    due("gone 12345", text(x, "gone 12345"), -105);
    due("gone 1234", text(x, "gone 1234"), -109);
    due("gone 1", text(x, "gone 1"), -106);
    due("none", x.text(), -100);
  }

  private static void p05Open() {
    stands("gone (((((1))))) ; gains -----1 ; spills not not not not not 1 ;");
    fault("gone ((((((1)))))) ;", 10);
    fault("gone ------1 ;", 10);
    fault("gone 1 - -----1 ; gains 1 - ------1 ;", 33);
    fault("gone not not not not not not 1 ;", 25);
    stands("gone not -(not -1) ; gains (1) + (1) + (1) + (1) + (1) + (1) ; spills not -(not (1)) ;");
    fault("gone not -(not --1) ;", 16);
    fault("gone not -(not -(1)) ;", 16);
    fault("gone not -(not (-1)) ;", 16);
    fault("gone not -(not (not 1)) ;", 16);
    fault("gone ((((( not 1 ))))) ;", 11);
    stands("gone -1 - -1 - -1 * -1 - -1 - -1 - -1 ; gains not 1 or not 1 ; spills not 1 and not 1 ;");
    stands("gone not 1 and not 1 and not 1 and not 1 and not 1 and not 1 ; gains 1 ; spills 1 ;");
    // a - ends with its ONE, a not with its NOT, a ( with its )
    stands("gone ((((-1 - -1 - (1))))) ; gains ((((not 1 or (1))))) ; spills 0 ;");
  }

  private static void p05Full() {
    SnuffOfElsewhere x = new SnuffOfElsewhere();
    for (int t = 1; t < 6; t++) due("text", text(x, "gone 1;gains 1;spills 1;"), t);
    due("six", x.count(3), 6);
    due("FULL, empty", x.text(), FULL);
    feed(x, "gone 1;gains 1;spills 1;");
    due("FULL", x.text(), FULL);
    due("the tape stays", x.count(5), 24);
    due("FULL ahead of the FAULT", x.feed(1, 'x', 0, 0, 0, 0), 25);
    due("FULL ahead of the FAULT", x.text(), FULL);
    due("the tape stays", x.count(5), 25);
    due("six", x.count(3), 6);
  }

  private static void p06Force() {
    SnuffOfElsewhere x = new SnuffOfElsewhere();
    due("force 0", x.force(0), 0);
    due("force 1", x.force(1), BAD);
    due("force -1", x.force(-1), BAD);
    text(x, "gone 1;gains 1;spills 1;");
    due("force 1", x.force(1), 0);
    due("force 2", x.force(2), BAD);
    due("as it was", x.count(4), 1);
    due("force 0", x.force(0), 1);
    due("force 6", x.force(6), BAD);
  }

  private static void p07Asks() {
    worth("sort", 5);
    worth("grains", 4);
    worth("wit", 30);
    worth("sand", 2);
    worth("minute", 17);
    worth("more", 6);
    worth("1 + 2 * 3", 7);
    worth("2 * 3 + 1", 7);
    worth("(1 + 2) * 3", 9);
    worth("10 - 3 - 2", 5);
    worth("10 - (3 - 2)", 9);
    worth("-2 * 3", -6);
    worth("2 - -3", 5);
    worth("--3", 3);
    worth("-(2 + 3)", -5);
    worth("-2 + 3", 1);
    worth("not 0", 1);
    worth("not 5", 0);
    worth("not -5", 0);
    worth("not not 5", 1);
    worth("not 1 < 2", 0);
    worth("not 2 = 1", 1);
    worth("(not 2) = 0", 1);
    worth("1 < 2", 1);
    worth("2 < 2", 0);
    worth("2 < 1", 0);
    worth("2 = 2", 1);
    worth("3 = 2", 0);
    worth("1 + 1 < 3", 1);
    worth("3 < 1 + 1", 0);
    worth("1 or 0 and 0", 1);
    worth("(1 or 0) and 0", 0);
    worth("0 and 1 or 1", 1);
    worth("0 and (1 or 1)", 0);
    worth("2 and 4", 1);
    worth("-2 and 4", 1);
    worth("0 or 7", 1);
    worth("0 or 0", 0);
    worth("7 and 0", 0);
    worth("(7)", 7);
    worth("not 0 and 7", 1);
    worth("not (0 and 7)", 1);
    worth("not 7 or 7", 1);
    worth("99", 99);
    worth("100", 99);
    worth("-99", -99);
    worth("-100", -99);
    // 9999 * 9999 * 43 is 4299140043, with 32 bits 4172747
    worth("9999 * 9999 * 43", 99);
    worth("9999 * 9999 * 43 = 4172 * 1000 + 747", 1);
    // 2 to the 31st is below 0, one less is the most there is
    worth("8192 * 8192 * 32 < 0", 1);
    worth("-(8192 * 8192 * 32) < 0", 1);
    worth("0 < 8192 * 8192 * 32 - 1", 1);
    p07Bounds();
  }

  private static void p07Bounds() {
    SnuffOfElsewhere x = of(0, 5);
    due("the first law", x.asks(0, 0, 7), 10);
    due("the first law", x.asks(1, 0, 7), 14);
    due("the first law", x.asks(2, 0, 7), 0);
    due("the first law", x.asks(0, 0, 0), 3);
    law(x, "gone 100;gains 100;spills 10;");
    due("gone above", x.asks(0, 0, 0), 99);
    due("gains above", x.asks(1, 0, 0), 99);
    due("spills above", x.asks(2, 0, 0), 9);
    law(x, "gone -1;gains -100;spills -1;");
    due("gone below", x.asks(0, 0, 0), 0);
    due("gains below", x.asks(1, 0, 0), -99);
    due("spills below", x.asks(2, 0, 0), 0);
    law(x, "gone 98;gains -98;spills 8;");
    due("gone", x.asks(0, 0, 0), 98);
    due("gains", x.asks(1, 0, 0), -98);
    due("spills", x.asks(2, 0, 0), 8);
    due("part -1", x.asks(-1, 0, 0), -1000);
    due("part 3", x.asks(3, 0, 0), -1000);
    due("p -1", x.asks(0, -1, 0), -1000);
    due("p 1", x.asks(0, 1, 0), -1000);
    due("sort -1", x.asks(0, 0, -1), -1000);
    due("sort 8", x.asks(0, 0, 8), -1000);
    // the law is the same for all kinds
    SnuffOfElsewhere y = of(25, 1, 45, 1, 55, 1);
    for (int p = 0; p < 3; p++) due("of kinds", y.asks(0, p, 2), 5);
  }

  private static void p08Gentleman() {
    SnuffOfElsewhere x = new SnuffOfElsewhere();
    due("-1", x.gentleman(-1, 0), BAD);
    due("60", x.gentleman(60, 0), BAD);
    due("each -1", x.gentleman(0, -1), BAD);
    due("each 10", x.gentleman(0, 10), BAD);
    due("none came", x.count(0), 0);
    due("59", x.gentleman(59, 9), 0);
    due("kind", x.told(0, 9), 5);
    due("more", x.told(0, 10), 9);
    for (int sort = 0; sort < 8; sort++) due("grains", x.told(0, sort), 9);
    due("wit", x.told(0, 8), 0);
    due("sand", x.told(0, 11), 0);
    due("where", x.told(0, 12), -1);
    due("left", x.told(0, 13), 0);
    for (int p = 1; p < 6; p++) due("comes", x.gentleman(10 * (p - 1) + p, p), p);
    due("kind", x.told(3, 9), 2);
    due("more", x.told(3, 10), 3);
    due("FULL", x.gentleman(0, 0), FULL);
    due("BAD ahead of FULL", x.gentleman(60, 0), BAD);
    due("BAD ahead of FULL", x.gentleman(0, 10), BAD);
  }

  private static void p09Put() {
    SnuffOfElsewhere x = of(0, 5, 0, 5);
    due("put", x.put(0, 7, 9), 5);
    due("put", x.put(0, 7, 0), 9);
    due("told", x.told(0, 7), 0);
    due("others", x.told(0, 6), 5);
    due("others", x.told(1, 7), 5);
    due("wit", x.put(1, 8, 99), 0);
    due("wit", x.put(1, 8, 0), 99);
    due("wit 100", x.put(1, 8, 100), -7);
    due("wit -1", x.put(1, 8, -1), -7);
    due("grains 10", x.put(1, 0, 10), -7);
    due("grains -1", x.put(1, 0, -1), -7);
    due("what 9", x.put(1, 9, 0), -7);
    due("what -1", x.put(1, -1, 0), -7);
    due("p 2", x.put(2, 0, 0), -5);
    due("p -1", x.put(-1, 99, 99), -5);
    due("as it was", x.told(1, 0), 5);
  }

  private static void p10Told() {
    SnuffOfElsewhere x = of(37, 5);
    x.put(0, 3, 8);
    x.put(0, 8, 20);
    due("pinch", x.pinch(0, 3), 3);
    due("grains", x.told(0, 3), 7);
    due("wit", x.told(0, 8), 46);
    due("kind", x.told(0, 9), 3);
    due("more", x.told(0, 10), 7);
    due("sand", x.told(0, 11), 8);
    due("where", x.told(0, 12), 3);
    due("left", x.told(0, 13), 3);
    due("what 14", x.told(0, 14), -7);
    due("what -1", x.told(0, -1), -7);
    due("p 1", x.told(1, 14), -5);
    due("p -1", x.told(-1, 0), -5);
  }

  private static void pinches(SnuffOfElsewhere x, int p, int sort, int gone, int gains, int spills) {
    String who = "pinches " + p + " " + sort + " ";
    due(who + "gone", x.pinches(p, sort, 0), gone);
    due(who + "gains", x.pinches(p, sort, 1), gains);
    due(who + "spills", x.pinches(p, sort, 2), spills);
  }

  private static void p11Pinches() {
    SnuffOfElsewhere x = of(4, 5, 14, 5, 24, 5, 34, 5, 44, 5, 54, 5);
    law(x, "gone 21;gains 7;spills 3;");
    pinches(x, 0, 1, 21, 7, 3);
    pinches(x, 1, 1, 10, 11, 3);
    pinches(x, 2, 1, 31, 7, 4);
    pinches(x, 3, 1, 10, 22, 3);
    pinches(x, 3, 4, 1, 22, 3);
    pinches(x, 4, 1, 10, -7, 4);
    pinches(x, 4, 7, 99, -7, 4);
    pinches(x, 5, 1, 4, 7, 0);
    x.clock(1);
    pinches(x, 0, 1, 21, 7, 3);
    pinches(x, 2, 1, 31, 7, 0);
    pinches(x, 4, 1, 10, -7, 0);
    x.clock(2);
    pinches(x, 2, 1, 31, 7, 4);
    x.clock(3);
    pinches(x, 2, 1, 31, 7, 0);
    pinches(x, 4, 1, 10, -7, 0);
    x.pinch(1, 1);
    x.pinch(3, 1);
    pinches(x, 1, 1, 10, 7, 3);
    pinches(x, 1, 2, 10, 11, 3);
    pinches(x, 3, 1, 10, 0, 3);
    pinches(x, 3, 2, 10, 22, 3);
    due("p 6", x.pinches(6, 0, 3), -5000);
    due("p -1", x.pinches(-1, 0, 0), -5000);
    due("sort 8", x.pinches(0, 8, 3), -5000);
    due("sort -1", x.pinches(0, -1, 0), -5000);
    due("what 3", x.pinches(0, 0, 3), -7000);
    due("what -1", x.pinches(0, 0, -1), -7000);
    p11Edges();
  }

  private static void p11Edges() {
    SnuffOfElsewhere x = of(0, 5, 18, 5, 20, 5, 39, 5, 40, 5, 50, 5);
    law(x, "gone 0;gains -9;spills 9;");
    pinches(x, 0, 0, 1, -9, 9);
    pinches(x, 1, 0, 1, -1, 9);
    pinches(x, 2, 0, 10, -9, 10);
    pinches(x, 3, 0, 1, 0, 9);
    // more 9 modulo 8 is sort 1
    pinches(x, 3, 1, 1, 0, 9);
    pinches(x, 4, 0, 3, 9, 10);
    pinches(x, 5, 0, 1, -9, 0);
    law(x, "gone 99;gains 99;spills 9;");
    pinches(x, 1, 0, 49, 107, 9);
    pinches(x, 2, 0, 109, 99, 10);
    pinches(x, 3, 0, 49, 216, 9);
    pinches(x, 3, 1, 1, 216, 9);
    pinches(x, 4, 0, 36, -99, 10);
    law(x, "gone 22;gains 99;spills 9;");
    pinches(x, 1, 0, 11, 107, 9);
    pinches(x, 4, 0, 10, -99, 10);
    law(x, "gone 23;gains 99;spills 9;");
    pinches(x, 1, 0, 11, 107, 9);
    pinches(x, 4, 0, 11, -99, 10);
  }

  private static void p12Pinch() {
    SnuffOfElsewhere x = of(0, 5, 20, 8, 50, 9);
    law(x, "gone 3 + sort;gains 50;spills 2;");
    due("no one", x.pinch(3, 8), -5);
    due("no one", x.pinch(-1, 0), -5);
    due("no sort", x.pinch(0, 8), -6);
    due("no sort", x.pinch(0, -1), -6);
    // two spilt, one of them over: the next one has 8
    due("pinch", x.pinch(0, 2), 5);
    due("one less, one spilt", x.told(0, 2), 3);
    due("the next one is full", x.told(1, 2), 9);
    due("wit", x.told(0, 8), 50);
    due("sand", x.told(0, 11), 4);
    due("where", x.told(0, 12), 2);
    due("left", x.told(0, 13), 5);
    due("not here", x.pinch(0, 3), STATE);
    // the next one has 9: nothing is spilt
    due("a lady's", x.pinch(1, 0), 13);
    due("one less", x.told(1, 0), 7);
    due("full", x.told(2, 0), 9);
    // behind the last one comes 0
    due("a horn's", x.pinch(2, 0), 1);
    due("one less", x.told(2, 0), 8);
    due("nothing spilt", x.told(0, 0), 5);
    p12Spills();
    p12Wit();
  }

  private static void p12Spills() {
    SnuffOfElsewhere x = of(0, 2, 0, 0, 0, 4);
    law(x, "gone grains;gains grains;spills grains;");
    // told ahead: by 2 grains, not by 1; spilt no more than one has yet
    due("by the grains ahead", x.pinch(0, 5), 2);
    due("wit", x.told(0, 8), 2);
    due("all spilt", x.told(0, 5), 0);
    due("as many more", x.told(1, 5), 1);
    due("the last one spills onto 0", x.pinch(2, 5), 4);
    due("three spilt", x.told(2, 5), 0);
    due("onto 0", x.told(0, 5), 3);
    due("not onto 1", x.told(1, 5), 1);
    due("the last grain", x.pinch(1, 5), 1);
    due("nothing to spill", x.told(2, 5), 0);
    due("none left", x.told(1, 5), 0);
    for (int i = 0; i < 4; i++) x.minute();
    due("no grains", x.pinch(1, 5), STATE);
    due("more minutes none", x.pinch(2, 5), STATE);
    SnuffOfElsewhere alone = of(0, 9);
    law(alone, "gone 1;gains 1;spills 5;");
    due("alone", alone.pinch(0, 0), 1);
    due("alone, nothing spilt", alone.told(0, 0), 8);
  }

  private static void p12Wit() {
    SnuffOfElsewhere x = of(0, 9, 40, 9);
    law(x, "gone 1;gains 60;spills 0;");
    x.pinch(0, 0);
    x.pinch(1, 0);
    due("wit", x.told(0, 8), 60);
    due("wit, 0 at least", x.told(1, 8), 0);
    x.put(1, 8, 70);
    for (int i = 0; i < 4; i++) x.minute();
    x.pinch(0, 0);
    x.pinch(1, 0);
    due("wit, 99 at most", x.told(0, 8), 99);
    due("wit", x.told(1, 8), 10);
    due("the same sand", x.told(0, 11), 1);
  }

  private static void p13Give() {
    SnuffOfElsewhere x = of(0, 2, 0, 8);
    due("give", x.give(0, 1, 3), 9);
    due("that one has 9", x.give(0, 1, 3), STATE);
    due("as it was", x.told(0, 3), 1);
    due("back", x.give(1, 0, 3), 2);
    x.pinch(0, 2);
    due("one who is gone", x.give(0, 1, 2), 9);
    due("one has none", x.give(0, 1, 2), STATE);
    due("none", x.told(0, 2), 0);
    due("one and the same", x.give(0, 0, 9), -5);
    due("no such", x.give(0, 2, 0), -5);
    due("no such", x.give(2, 0, 0), -5);
    due("no such", x.give(-1, 0, 0), -5);
    due("no such", x.give(0, -1, 0), -5);
    due("sort 8", x.give(0, 1, 8), -6);
    due("sort -1", x.give(0, 1, -1), -6);
  }

  private static void p14Minute() {
    SnuffOfElsewhere x = of(0, 5, 53, 5, 52, 5);
    due("nobody", x.minute(), 0);
    x.pinch(0, 0);
    x.pinch(1, 1);
    x.pinch(2, 1);
    due("left 2 2 1", x.minute(), 0);
    due("left", x.told(0, 13), 2);
    due("one comes", x.minute(), 4);
    due("here", x.told(2, 12), -1);
    due("left 0", x.told(2, 13), 0);
    due("two come", x.minute(), 3);
    due("nobody", x.minute(), 0);
    due("minute", x.count(1), 5);
    x.clock(998);
    due("998", x.minute(), 0);
    due("999", x.minute(), STATE);
    due("999", x.count(1), 999);
    x.pinch(0, 0);
    due("999", x.minute(), STATE);
    due("left stays", x.told(0, 13), 3);
  }

  private static void p15Room() {
    SnuffOfElsewhere x = of(0, 5, 0, 5, 0, 5, 0, 5);
    due("all here", x.room(0), 15);
    due("none left", x.room(9), 0);
    x.pinch(1, 0);
    x.pinch(3, 0);
    x.pinch(2, 7);
    due("here", x.room(0), 1);
    due("in 0", x.room(1), 10);
    due("in 1", x.room(2), 0);
    due("in 7", x.room(8), 4);
    due("most left", x.room(9), 10);
    x.pinch(0, 7);
    x.minute();
    due("most left", x.room(9), 9);
    x.clock(0);
    SnuffOfElsewhere y = of(0, 5, 0, 5);
    y.pinch(0, 7);
    y.pinch(1, 0);
    due("most left of the first", y.room(9), 10);
    due("10", x.room(10), BAD);
    due("-1", x.room(-1), BAD);
    due("nobody at all", of().room(9), 0);
  }

  private static void p16Evening() {
    SnuffOfElsewhere x = of(0, 2, 10, 2);
    row(x, 1, 0, 0, -1, 11, 10, 1, 2, 10);
    // minute 0: 0 by sort 0, gone 3; 2: 1 by sort 1, gone 2; 3: 1 is gone; 4: 0 by 1, gone 4; 5: 0 is gone; 6: 1 by 0
    due("taken", x.evening(1, 0), 4);
    due("most gone at once", x.evening(1, 1), 2);
    due("gone, together", x.evening(1, 2), 1 + 1 + 2 + 1 + 1 + 1 + 2);
    due("the first left out", x.evening(1, 3), 3);
    due("wit of 0", x.evening(1, 10), 2);
    due("wit of 1", x.evening(1, 11), 2);
    due("sand of 0", x.evening(1, 20), 3);
    due("sand of 1", x.evening(1, 21), 3);
    due("no such", x.evening(1, 12), -7);
    due("no such", x.evening(1, 22), -7);
    due("what 4", x.evening(1, 4), -7);
    due("what 9", x.evening(1, 9), -7);
    due("what 19", x.evening(1, 19), -7);
    due("what -1", x.evening(1, -1), -7);
    due("in thought", x.count(1), 0);
    due("in thought", x.told(0, 0), 2);
    due("in thought", x.told(0, 11), 0);
    due("sheet 4", x.evening(4, 99), BAD);
    due("sheet -1", x.evening(-1, 0), BAD);
    due("missing", x.evening(0, 99), -11);
    for (int bad : new int[] {20, 8, 9, 18, -2, -10, 100, MOST, LEAST}) {
      row(x, 2, 2, -1, bad);
      due("no pinch " + bad, x.evening(2, 99), BAD);
    }
    row(x, 2, 2, 17, -1);
    due("the last pinch", x.evening(2, 0), 1);
    due("none left out", x.evening(2, 3), -1);
    row(x, 2, 2, 0, 1, 2, 17);
    due("the first of several left out", x.evening(2, 3), 1);
    row(x, 2, 2, 0, 0, 3);
    x.put(0, 0, 0);
    due("the very first", x.evening(2, 3), 0);
    x.put(0, 0, 2);
    x.put(1, 1, 0);
    row(x, 2, 2, 15, 14);
    due("by the sort", x.evening(2, 0), 1);
    row(x, 2, 2, 11);
    due("by the sort", x.evening(2, 0), 0);
    x.put(1, 1, 2);
    row(x, 2, 2);
    for (int what = 0; what < 4; what++) due("none", x.evening(2, what), what == 3 ? -1 : 0);
    due("none", x.evening(2, 10), 0);
    x.clock(999);
    due("past 999", x.evening(1, 0), 4);
  }

  private static void p17Spend() {
    SnuffOfElsewhere x = of(0, 2, 10, 2);
    row(x, 1, 0, 0, -1, 11, 10, 1, 2, 10);
    due("spend", x.spend(1), 4);
    due("minute", x.count(1), 7);
    due("wit", x.told(0, 8), 2);
    due("sand", x.told(1, 11), 3);
    due("left", x.told(0, 13), 1);
    due("where", x.told(0, 12), 1);
    due("grains", x.told(0, 0), 1);
    due("sheet 4", x.spend(4), BAD);
    due("missing", x.spend(0), -11);
    row(x, 2, 1, -1, 28);
    due("no pinch", x.spend(2), BAD);
    x.clock(993);
    due("above 999", x.spend(1), STATE);
    due("as it was", x.count(1), 993);
    due("as it was", x.told(0, 13), 1);
    x.clock(992);
    due("just 999", x.spend(1) >= 0 ? 0 : 1, 0);
    due("just 999", x.count(1), 999);
    row(x, 2, 1);
    due("no minutes at 999", x.spend(2), 0);
    row(x, 2, 1, -1);
    due("a minute at 999", x.spend(2), STATE);
    row(x, 2, 1, 28);
    due("BAD ahead of STATE", x.spend(2), BAD);
  }

  private static void p18Plan() {
    SnuffOfElsewhere x = of(0, 0);
    x.put(0, 1, 2);
    x.put(0, 4, 3);
    // sort 1: gone 4, gains 2, twice; sort 4: gone 7, gains 8, three times
    due("none", x.plan(0, 3, 0), 0);
    due("none", x.plan(0, 3, 1), 0);
    due("4", x.plan(0, 4, 0), 2);
    due("6", x.plan(0, 6, 0), 2);
    due("6", x.plan(0, 6, 1), 4);
    due("7", x.plan(0, 7, 0), 8);
    due("8", x.plan(0, 8, 0), 8);
    due("8", x.plan(0, 8, 1), 7);
    due("11", x.plan(0, 11, 0), 10);
    due("13", x.plan(0, 13, 1), 11);
    due("all", x.plan(0, 60, 0), 28);
    due("all", x.plan(0, 60, 1), 29);
    due("0", x.plan(0, 0, 0), 0);
    due("no one", x.plan(1, 61, 2), -5);
    due("no one", x.plan(-1, 0, 0), -5);
    due("61", x.plan(0, 61, 0), -7);
    due("-1", x.plan(0, -1, 0), -7);
    due("what 2", x.plan(0, 0, 2), -7);
    due("what -1", x.plan(0, 0, -1), -7);
    SnuffOfElsewhere y = of(30, 3, 40, 9);
    // told as all is now: the second of a sort gains what the first does; sorts 0 in 1, 1 in 2, .. : 7 in 5
    due("an old one's", y.plan(0, 5, 0), 28);
    due("an old one's", y.plan(0, 15, 0), 3 * 24 + 16);
    y.pinch(0, 7);
    due("of one's sand", y.plan(0, 5, 0), 24);
    due("though one is gone", y.plan(0, 5, 1), 4);
    due("a loss", y.plan(1, 60, 0), 0);
    due("a loss", y.plan(1, 60, 1), 0);
    SnuffOfElsewhere z = of(0, 1);
    law(z, "gone 2;gains 8 - sort;spills 0;");
    due("sort 0", z.plan(0, 2, 0), 8);
    due("the first two", z.plan(0, 5, 0), 15);
    due("the first two", z.plan(0, 5, 1), 4);
    due("all of it", z.plan(0, 60, 0), 36);
    due("all of it", z.plan(0, 60, 1), 16);
  }

  private static void p19Which() {
    SnuffOfElsewhere x = of(0, 1, 0, 0, 40, 5);
    due("which", x.which(0, 0), 7);
    due("that", x.which(0, 1), 14);
    x.put(0, 7, 0);
    due("not without grains", x.which(0, 0), 6);
    x.put(0, 8, 95);
    // 95 + 4 is 99, so is all above: the first
    due("like ones", x.which(0, 0), 2);
    due("that", x.which(0, 1), 99);
    x.put(1, 8, 33);
    due("none", x.which(1, 0), -1);
    due("as it is", x.which(1, 1), 33);
    x.put(2, 8, 50);
    due("a footman's", x.which(2, 0), 0);
    due("a footman's", x.which(2, 1), 50);
    x.put(2, 0, 0);
    due("a loss", x.which(2, 0), 1);
    due("a loss", x.which(2, 1), 48);
    x.pinch(2, 1);
    due("gone", x.which(2, 0), -1);
    due("gone", x.which(2, 1), 48);
    SnuffOfElsewhere y = of(40, 5);
    due("0 at least", y.which(0, 0), 0);
    due("0 at least", y.which(0, 1), 0);
    due("no one", x.which(3, 2), -5);
    due("what 2", x.which(0, 2), -7);
    due("-7 ahead of -1", x.which(1, 2), -7);
    due("what -1", x.which(0, -1), -7);
  }

  private static void p20Tour() {
    SnuffOfElsewhere x = of(0, 1, 52, 1, 20, 2);
    due("all", x.tour(0, 0), 8);
    due("3 + .. + 10", x.tour(0, 1), 52);
    due("a horn's", x.tour(1, 0), 8);
    due("a horn's", x.tour(1, 1), 16);
    due("a lady's", x.tour(2, 1), 132);
    due("not truly", x.told(2, 11), 0);
    x.pinch(0, 3);
    x.minute();
    due("seven", x.tour(0, 0), 7);
    due("left, and the others", x.tour(0, 1), 5 + 46);
    x.put(0, 3, 0);
    due("that one has been", x.tour(0, 0), 7);
    x.put(0, 4, 0);
    due("no grains", x.tour(0, 0), -1);
    due("no grains", x.tour(0, 1), -1);
    due("no one", x.tour(3, 2), -5);
    due("-7 ahead of -1", x.tour(0, 2), -7);
    due("what -1", x.tour(1, -1), -7);
    // everywhere
    SnuffOfElsewhere y = of(51, 1);
    for (int sort = 0; sort < 8; sort++) {
      y.pinch(0, sort);
      if (sort < 7) y.minute();
    }
    due("none", y.tour(0, 0), 0);
    due("a minute yet", y.tour(0, 1), 1);
    y.minute();
    due("at once", y.tour(0, 1), 0);
    // 8 times 25 is 200, just so
    SnuffOfElsewhere z = of(0, 1);
    law(z, "gone 25;gains 0;spills 0;");
    due("200", z.tour(0, 1), 200);
    law(z, "gone 25 + (sort = 7);gains 0;spills 0;");
    due("201", z.tour(0, 1), -1);
    due("201", z.tour(0, 0), 8);
    // minutes pass in thought, past 999 too
    law(z, "gone 1 + (minute < 3);gains 0;spills 0;");
    due("by minutes", z.tour(0, 1), 10);
    z.clock(999);
    due("past 999", z.tour(0, 1), 8);
  }

  private static void p21Share() {
    SnuffOfElsewhere x = of(0, 0, 15, 0, 50, 0);
    due("the wit", x.share(2, 0), 1);
    due("that", x.share(2, 1), 9);
    x.put(0, 2, 1);
    x.put(1, 2, 1);
    due("the horn", x.share(2, 0), 2);
    due("that", x.share(2, 1), 4 + 9 + 4);
    x.put(2, 2, 3);
    due("of like ones the first", x.share(2, 0), 0);
    due("not truly", x.told(0, 2), 1);
    x.put(0, 2, 9);
    due("not one who has 9", x.share(2, 0), 1);
    x.put(1, 2, 9);
    x.put(2, 2, 9);
    x.put(2, 8, 40);
    due("nobody", x.share(2, 0), -1);
    due("as all is", x.share(2, 1), 40);
    due("sort 8", x.share(8, 0), BAD);
    due("sort -1", x.share(-1, 0), BAD);
    due("what 2", x.share(0, 2), BAD);
    due("what -1", x.share(0, -1), BAD);
    due("nobody at all", of().share(0, 0), -1);
    // what one spills, the next one can take
    SnuffOfElsewhere y = of(0, 0, 0, 0);
    law(y, "gone 1;gains 5;spills 9;");
    y.put(0, 3, 1);
    due("one spills a grain", y.share(3, 1), 10);
    due("one spills a grain", y.share(3, 0), 0);
    // a loss, for those who can, whoever has the grain
    SnuffOfElsewhere z = of(40, 1, 0, 0);
    z.put(0, 8, 30);
    z.put(1, 8, 99);
    due("a loss", z.share(4, 1), 22 + 99);
    due("a loss", z.share(4, 0), 0);
    z.put(0, 4, 0);
    due("who loses less", z.share(4, 0), 1);
    due("who loses less", z.share(4, 1), 129);
  }

  private static void p22Box() {
    SnuffOfElsewhere x = of(0, 1, 0, 2, 0, 0);
    due("one", x.box(0, 0), 1);
    due("in three", x.box(0, 1), 3);
    due("two", x.box(1, 0), 2);
    due("in three", x.box(1, 1), 3);
    due("none", x.box(2, 0), 0);
    due("in one", x.box(2, 1), 1);
    x.put(2, 5, 5);
    due("8 of 29", x.box(0, 0), 8);
    due("8 of 29", x.box(0, 1), 29);
    due("p 3", x.box(3, 0), NO);
    due("p -1", x.box(-1, 0), NO);
    due("part 2", x.box(0, 2), NO);
    due("part -1", x.box(0, -1), NO);
    SnuffOfElsewhere y = of(0, 0, 0, 0);
    due("there are none", y.box(0, 0), NO);
    due("there are none", y.box(0, 1), NO);
    y.put(1, 0, 1);
    due("all", y.box(1, 0), 1);
    due("all", y.box(1, 1), 1);
  }

  // A gentleman and a wit of more 3: an evening in sheet 0, wit of 0 in 1, of 1 in 2.
  private static SnuffOfElsewhere told() {
    SnuffOfElsewhere x = of(3, 3, 13, 3);
    row(x, 0, 2, 2, 11, -1, 11, 16);
    row(x, 1, 0, 4, 4, 4, 4, 4);
    row(x, 2, 1, 0, 5, 5, 7, 7);
    return x;
  }

  private static void refusesJudging(SnuffOfElsewhere x, boolean whose, int call) {
    due("told 4", judging(x, call, 9, 4, 9), BAD);
    due("told -1", judging(x, call, 0, -1, 0), BAD);
    due("s 4", judging(x, call, 4, 3, 9), BAD);
    due("s -1", judging(x, call, -1, 1, 9), BAD);
    x.sheet(3, -1, 0);
    due("s is missing", judging(x, call, 3, 3, 9), -11);
    row(x, 3, 2, 27);
    x.sheet(2, -1, 0);
    due("no evening", judging(x, call, 3, 2, 9), BAD);
    due("told is missing", judging(x, call, 0, 2, 9), -11);
    row(x, 2, 0, 1, 2, 3, 4, 5, 6);
    due("more than s", judging(x, call, 0, 2, 9), BAD);
    if (whose) return;
    due("no one", judging(x, call, 0, 1, 2), -5);
    due("no one", judging(x, call, 0, 1, -1), -5);
  }

  // The last two are wrong for those that have them, so that what comes ahead is seen to.
  private static int judging(SnuffOfElsewhere x, int call, int s, int told, int p) {
    switch (call) {
      case 23: return x.judge(s, told, p);
      case 24: return x.kinds(s, told, p, 99);
      case 25: return x.states(s, told, p, 99, 99);
      case 26: return x.whose(s, told);
      default: return x.laws(s, told, p);
    }
  }

  private static void p23Judge() {
    SnuffOfElsewhere x = told();
    due("as told", x.judge(0, 1, 0), -1);
    due("as told", x.judge(0, 2, 1), -1);
    due("otherwise", x.judge(0, 1, 1), 0);
    due("otherwise", x.judge(0, 2, 0), 0);
    x.cell(2, 3, 8);
    due("the first otherwise", x.judge(0, 2, 1), 3);
    row(x, 2, 0, 0, 5, 5);
    due("fewer than s", x.judge(0, 2, 1), -1);
    row(x, 2, 0);
    due("nothing told", x.judge(0, 2, 1), -1);
    row(x, 3, 2);
    due("nothing told of nothing", x.judge(3, 2, 0), -1);
    row(x, 2, 2, 260, 4);
    due("an int is no byte", x.judge(0, 2, 0), 0);
    due("in thought", x.count(1), 0);
    refusesJudging(told(), false, 23);
  }

  private static void p24Kinds() {
    SnuffOfElsewhere x = told();
    // of 0: 4 by sort 2 as a gentleman, a lady, a horn
    due("kinds of 0", x.kinds(0, 1, 0, 0), 0b100101);
    due("more of 0", x.kinds(0, 1, 0, 1), 1023);
    // of 1: gone 2, 5 by sort 1, 2 by sort 1 again, gone yet by 6
    due("kinds of 1", x.kinds(0, 2, 1, 0), 0b000010);
    due("more of 1", x.kinds(0, 2, 1, 1), 1 << 3);
    due("as it was", x.told(1, 9), 1);
    due("as it was", x.told(1, 10), 3);
    due("sort 2", x.kinds(0, 1, 0, 2), -7);
    due("sort -1", x.kinds(0, 1, 0, -1), -7);
    row(x, 2, 1, 0, 11);
    due("none", x.kinds(0, 2, 1, 0), 0);
    due("none by more but 9", x.kinds(0, 2, 1, 1), 1 << 9);
    refusesJudging(told(), false, 24);
  }

  private static void p25States() {
    SnuffOfElsewhere x = told();
    due("wit", x.states(0, 2, 1, 8, 0), 1);
    due("wit", x.states(0, 2, 1, 8, 1), 0);
    // two grains of sort 1 are needed
    due("grains", x.states(0, 2, 1, 1, 0), 8);
    due("grains", x.states(0, 2, 1, 1, 1), 2);
    due("of another sort", x.states(0, 2, 1, 0, 0), 10);
    due("of another sort", x.states(0, 2, 1, 0, 1), 0);
    due("as it was", x.told(1, 1), 3);
    due("as it was", x.told(1, 8), 0);
    // 99 at the bound: from 95 on
    row(x, 1, 0, 99);
    due("wit by the bound", x.states(0, 1, 0, 8, 0), 5);
    due("wit by the bound", x.states(0, 1, 0, 8, 1), 95);
    row(x, 1, 0, 3);
    due("none", x.states(0, 1, 0, 8, 0), 0);
    due("none", x.states(0, 1, 0, 8, 1), -1);
    due("none", x.states(0, 1, 0, 2, 0), 0);
    due("none", x.states(0, 1, 0, 2, 1), -1);
    due("sort 9", x.states(0, 1, 0, 9, 0), -7);
    due("sort -1", x.states(0, 1, 0, -1, 0), -7);
    due("what 2", x.states(0, 1, 0, 0, 2), -7);
    due("what -1", x.states(0, 1, 0, 0, -1), -7);
    refusesJudging(told(), false, 25);
  }

  private static void p26Whose() {
    SnuffOfElsewhere x = told();
    due("of 0", x.whose(0, 1), 1);
    due("of 1", x.whose(0, 2), 2);
    row(x, 3, 0);
    due("of both", x.whose(0, 3), 3);
    row(x, 3, 0, 99);
    due("of nobody", x.whose(0, 3), 0);
    refusesJudging(told(), true, 26);
    SnuffOfElsewhere y = of();
    row(y, 0, 2, -1);
    row(y, 1, 2, 0);
    due("nobody at all", y.whose(0, 1), 0);
  }

  private static void p27Laws() {
    SnuffOfElsewhere x = told();
    text(x, "gone 4;gains 2 * sort;spills 0;");
    text(x, "gone 5;gains 1 + sort;spills 9;");
    // by the last one, 0 gains 3 by sort 2; 1 spills all of sort 1, so that there is no second pinch
    due("of 0", x.laws(0, 1, 0), 0b011);
    due("of 1", x.laws(0, 2, 1), 0b011);
    row(x, 2, 1, 0, 5, 5);
    due("of 1, fewer told", x.laws(0, 2, 1), 0b111);
    row(x, 3, 1, 3, 3, 3, 3, 3);
    due("by the last", x.laws(0, 3, 0), 0b100);
    row(x, 3, 1, 1);
    due("by none", x.laws(0, 3, 0), 0);
    row(x, 3, 1);
    due("by all there are", x.laws(0, 3, 0), 0b111);
    x.force(2);
    due("whichever is the law", x.laws(0, 1, 0), 0b011);
    due("the law stays", x.count(4), 2);
    due("not by it", x.judge(0, 1, 0), 0);
    refusesJudging(told(), false, 27);
  }

  private static void p28Film() {
    SnuffOfElsewhere x = told();
    due("film", x.film(0, 3, 1), 5);
    due("as told", x.judge(0, 3, 1), -1);
    due("film of 0", x.film(0, 3, 0), 5);
    due("as told", x.judge(0, 3, 0), -1);
    tells("film of 0", x, 0, 3, 0, 4, 4, 4, 4, 4);
    due("film again", x.film(0, 3, 1), 5);
    due("as told", x.judge(0, 3, 1), -1);
    tells("bytes", x, 0, 3, 1, 256, 256 + 5, 512 + 5, 7, -249);
    due("no sixth", x.cell(3, 5, 0), -12);
    due("in thought", x.count(1), 0);
    due("in thought", x.told(1, 8), 0);
    due("over a sheet", x.film(0, 1, 1), 5);
    due("over a sheet", x.judge(0, 1, 1), -1);
    row(x, 2, 2);
    due("none", x.film(2, 3, 0), 0);
    x.sheet(2, 0, 40);
    due("40 minutes", x.film(2, 3, 1), 40);
    due("40 minutes", x.judge(2, 3, 1), -1);
    due("40 minutes", x.cell(3, 39, 1), 1);
    due("the last minute", x.judge(2, 3, 1), 39);
    row(x, 2, 2);
    due("none", x.film(2, 3, 0), 0);
    due("a row of none", x.cell(3, 0, 0), -12);
    due("told 4", x.film(9, 4, 9), BAD);
    due("told -1", x.film(0, -1, 0), BAD);
    due("s 4", x.film(4, 3, 9), BAD);
    x.sheet(3, -1, 0);
    due("one and the same", x.film(3, 3, 9), BAD);
    due("missing", x.film(3, 2, 9), -11);
    row(x, 3, 2, 20);
    due("no evening", x.film(3, 2, 9), BAD);
    due("no one", x.film(0, 3, 2), -5);
    due("no one", x.film(0, 3, -1), -5);
    due("as it was", x.evening(3, 0), BAD);
  }

  // The lots as the document tells them, each evening told to evening() of a set that is alike.
  private static int[] lots(int seed, int n) {
    int[] pinches = new int[n];
    long lot = seed + 1;
    for (int i = 0; i < n; i++) {
      lot = lot * 48271 % 2147483647;
      long who = lot % 6;
      lot = lot * 48271 % 2147483647;
      pinches[i] = (int) (10 * who + lot % 8);
    }
    return pinches;
  }

  private static void p29Drawn() {
    SnuffOfElsewhere x = of(1, 5, 12, 5, 23, 5, 34, 5, 45, 5, 56, 5);
    for (int seed : new int[] {0, 1, 7, 4711, 99999}) {
      row(x, 0, 0, lots(seed, 40));
      int wit = 0;
      for (int p = 0; p < 6; p++) wit += x.evening(0, 10 + p);
      due("wit by " + seed, x.drawn(seed, 40, 0), wit);
      due("taken by " + seed, x.drawn(seed, 40, 1), x.evening(0, 0));
    }
    due("in thought", x.count(1), 0);
    due("in thought", x.count(2), 6);
    due("none", x.drawn(3, 0, 1), 0);
    x.put(3, 8, 44);
    due("none", x.drawn(3, 0, 0), 44);
    // by seed 0 the first two lots are 48271 and 182605794: 0 hasn't such a number, 1 by sort 2
    due("none numbered 1", of(0, 5).drawn(0, 1, 1), 0);
    due("1 by sort 2", of(0, 5, 0, 5).drawn(0, 1, 1), 1);
    due("1 by sort 2", of(0, 5, 0, 5).drawn(0, 1, 0), 4);
    due("nobody at all", of().drawn(0, 60, 1), 0);
    due("60", x.drawn(0, 60, 1) > 0 ? 1 : 0, 1);
    due("61", x.drawn(0, 61, 0), BAD);
    due("-1", x.drawn(0, -1, 0), BAD);
    due("seed -1", x.drawn(-1, 1, 0), BAD);
    due("seed 100000", x.drawn(100000, 1, 0), BAD);
    due("what 2", x.drawn(0, 1, 2), BAD);
    due("what -1", x.drawn(0, 1, -1), BAD);
    x.clock(999);
    due("past 999", x.drawn(0, 60, 1) > 0 ? 1 : 0, 1);
  }

  private static void p30Odds() {
    SnuffOfElsewhere x = of(1, 5, 12, 5, 23, 5);
    for (int least : new int[] {0, 10, 25, 40, 999}) {
      int enough = 0;
      for (int seed = 100; seed < 112; seed++) if (x.drawn(seed, 20, 0) >= least) enough++;
      int above = enough, below = 12;
      for (int d = 12; d > 1; d--) while (above % d == 0 && below % d == 0) { above /= d; below /= d; }
      due("above by " + least, x.odds(100, 12, least, 0), above);
      due("below by " + least, x.odds(100, 12, least, 1), below);
    }
    due("all", x.odds(0, 40, 0, 0), 1);
    due("all", x.odds(0, 40, 0, 1), 1);
    due("none", x.odds(0, 40, 999, 0), 0);
    due("none", x.odds(0, 40, 999, 1), 1);
    due("past 99999", x.odds(99999, 40, 0, 1), 1);
    due("just that", x.odds(5, 1, x.drawn(5, 20, 0), 0), 1);
    due("one more", x.odds(5, 1, x.drawn(5, 20, 0) + 1, 0), 0);
    due("seed -1", x.odds(-1, 1, 0, 0), NO);
    due("seed 100000", x.odds(100000, 1, 0, 0), NO);
    due("seeds 0", x.odds(0, 0, 0, 0), NO);
    due("seeds 41", x.odds(0, 41, 0, 0), NO);
    due("least -1", x.odds(0, 1, -1, 0), NO);
    due("least 1000", x.odds(0, 1, 1000, 0), NO);
    due("part 2", x.odds(0, 1, 0, 2), NO);
    due("part -1", x.odds(0, 1, 0, -1), NO);
  }

  private static void p31p32Image() {
    SnuffOfElsewhere x = of(0, 5, 13, 4);
    due("none yet", x.back(), STATE);
    text(x, "gone 1;gains 1;spills 1;");
    x.pinch(1, 3);
    x.clock(40);
    due("image", x.image(), 2);
    x.minute();
    x.pinch(0, 0);
    x.put(0, 5, 0);
    x.put(1, 8, 77);
    x.force(1);
    due("one more", x.gentleman(29, 9), 2);
    x.pinch(2, 0);
    row(x, 0, 2, 5);
    feed(x, "ab");
    due("back", x.back(), 2);
    due("size", x.count(0), 2);
    due("minute", x.count(1), 40);
    due("law", x.count(4), 0);
    due("texts stay", x.count(3), 2);
    due("the tape stays", x.count(5), 2);
    due("sheets stay", x.evening(0, 0), 1);
    due("none such", x.told(2, 9), -5);
    due("here", x.room(0), 1);
    due("grains", x.told(0, 5), 5);
    due("grains", x.told(0, 0), 5);
    due("sand", x.told(0, 11), 0);
    due("wit", x.told(1, 8), 9);
    due("where", x.told(1, 12), 3);
    due("left", x.told(1, 13), 3);
    due("kind", x.told(1, 9), 1);
    // another one comes in the place, fresh
    due("anew", x.gentleman(41, 1), 2);
    due("anew", x.told(2, 11), 0);
    due("anew", x.told(2, 12), -1);
    due("anew", x.told(2, 13), 0);
    due("anew", x.told(2, 8), 0);
    due("anew", x.told(2, 9), 4);
    due("the image stays", x.back(), 2);
    x.gentleman(51, 1);
    due("another image", x.image(), 3);
    due("another image", x.back(), 3);
    due("another image", x.told(2, 9), 5);
    SnuffOfElsewhere none = of();
    due("of nobody", none.image(), 0);
    none.gentleman(0, 0);
    due("of nobody", none.back(), 0);
  }

  private static void p33Sheet() {
    SnuffOfElsewhere x = of(0, 5);
    due("sheet", x.sheet(3, 0, 40), 1);
    due("the last", x.cell(3, 39, 1), 1);
    due("behind", x.cell(3, 40, 1), -12);
    due("anew", x.sheet(3, 2, 40), 1);
    due("all 0", x.evening(3, 0), 5);
    due("all 0", x.evening(3, 20), 1);
    x.cell(3, 5, 3);
    due("anew", x.sheet(3, 2, 40), 1);
    x.cell(3, 0, 4);
    due("anew", x.sheet(3, 2, 40), 1);
    due("all 0 again", x.evening(3, 20), 1);
    due("none", x.sheet(3, 1, 0), 1);
    due("none", x.cell(3, 0, 1), -12);
    due("missing", x.sheet(3, -1, 99), 1);
    due("missing", x.cell(3, 0, 1), -11);
    due("missing", x.sheet(3, -1, -99), 1);
    due("sheet 4", x.sheet(4, 0, -1), BAD);
    due("sheet -1", x.sheet(-1, -1, 0), BAD);
    due("sort 3", x.sheet(0, 3, -1), BAD);
    due("sort -2", x.sheet(0, -2, 0), BAD);
    due("41", x.sheet(0, 0, 41), BAD);
    due("-1", x.sheet(0, 0, -1), -14);
    due("LEAST", x.sheet(0, 0, LEAST), -14);
    due("as it was", x.cell(0, 0, 0), -11);
    due("40 minutes", x.sheet(0, 2, 40), 1);
    x.sheet(0, 2, 2);
    x.cell(0, 1, 9);
    due("BAD changes nothing", x.sheet(0, 2, 41), BAD);
    due("BAD changes nothing", x.evening(0, 0), BAD);
  }

  // What a number becomes in a sheet of a sort: told as an evening's wit.
  private static void narrows(int sort, int v, int as) {
    SnuffOfElsewhere x = of(0, 5);
    x.put(0, 8, 42);
    row(x, 0, 2, -1);
    x.sheet(1, sort, 1);
    due("cell", x.cell(1, 0, v), 1);
    due("sort " + sort + " of " + v, x.judge(0, 1, 0), as == 42 ? -1 : 0);
  }

  private static void p34Cell() {
    narrows(0, 42, 42);
    narrows(0, 42 + 256, 42);
    narrows(0, 42 - 256, 42);
    narrows(0, 42 + 65536, 42);
    narrows(1, 42 + 256, 0);
    narrows(1, 42 + 65536, 42);
    narrows(1, 42 - 65536, 42);
    narrows(2, 42 + 65536, 0);
    narrows(2, 42 + 256, 0);
    // 255 in a byte, 65535 in a short are -1: nobody's
    SnuffOfElsewhere x = of(0, 5);
    row(x, 0, 0, 255);
    due("255 in a byte", x.evening(0, 3), -1);
    row(x, 0, 1, 65535);
    due("65535 in a short", x.evening(0, 3), -1);
    row(x, 0, 1, 255);
    due("255 in a short", x.evening(0, 3), BAD);
    row(x, 0, 2, 65535);
    due("65535 in an int", x.evening(0, 3), BAD);
    due("sheet 4", x.cell(4, 0, 0), BAD);
    due("sheet -1", x.cell(-1, 0, 0), BAD);
    due("missing", x.cell(1, 99, 0), -11);
    due("place 1", x.cell(0, 1, 0), -12);
    due("place -1", x.cell(0, -1, 0), -12);
    due("place LEAST", x.cell(0, LEAST, 0), -12);
  }

  private static void p35Copy() {
    SnuffOfElsewhere x = of(0, 9);
    // an evening of nobody's; wit stays 0
    row(x, 3, 2, -1, -1, -1, -1, -1);
    row(x, 0, 2, 1, 2, 3, 4, 5);
    row(x, 1, 2, 0, 0, 0, 0, 0);
    due("copy", x.copy(0, 1, 1, 2, 3), 3);
    same(x, 1, 0, 0, 2, 3, 4);
    due("up in its own", x.copy(0, 0, 0, 1, 4), 4);
    same(x, 0, 1, 1, 2, 3, 4);
    row(x, 0, 2, 1, 2, 3, 4, 5);
    due("down in its own", x.copy(0, 1, 0, 0, 4), 4);
    same(x, 0, 2, 3, 4, 5, 5);
    due("none", x.copy(0, 5, 1, 5, 0), 0);
    due("all", x.copy(0, 0, 1, 0, 5), 5);
    same(x, 1, 2, 3, 4, 5, 5);
    row(x, 1, 2, 0, 0, 2, 3, 4);
    due("none, outside", x.copy(0, 6, 1, 0, 0), -12);
    due("none, outside", x.copy(0, 0, 1, 6, 0), -12);
    due("n -1", x.copy(0, 0, 1, 0, -1), -12);
    due("i -1", x.copy(0, -1, 1, 0, 1), -12);
    due("j -1", x.copy(0, 0, 1, -1, 1), -12);
    due("too many", x.copy(0, 2, 1, 0, 4), -12);
    due("too many", x.copy(0, 0, 1, 2, 4), -12);
    due("far", x.copy(0, MOST, 1, 0, MOST), -12);
    due("far", x.copy(0, 1, 1, 1, MOST), -12);
    due("s 4", x.copy(4, 0, 2, 0, 1), BAD);
    due("other -1", x.copy(2, 0, -1, 0, 1), BAD);
    due("missing", x.copy(2, 99, 0, 0, 1), -11);
    due("missing", x.copy(0, 99, 2, 0, 1), -11);
    row(x, 2, 1, 7, 7);
    due("unlike", x.copy(2, 99, 0, 0, 1), -13);
    due("unlike", x.copy(0, 0, 2, 0, 99), -13);
    same(x, 1, 0, 0, 2, 3, 4);
    row(x, 1, 1, 0, 9);
    due("shorts", x.copy(2, 1, 1, 0, 1), 1);
    same(x, 1, 7, 9);
  }

  // The sheet holds just these: each is put as wit, and its number told alone.
  private static void same(SnuffOfElsewhere x, int s, int... values) {
    SnuffOfElsewhere y = x;
    int told = 0;
    for (int i = 0; i < values.length; i++) {
      y.put(0, 8, values[i]);
      told = y.judge(3, s, 0);
      due("number " + i + " of sheet " + s, told == -1 || told == otherThan(values, values[i]) ? 0 : told + 1, 0);
    }
    y.put(0, 8, 0);
  }

  private static int otherThan(int[] values, int v) {
    for (int i = 0; i < values.length; i++) if (values[i] != v) return i;
    return -1;
  }

  private static void p36SetBy() {
    SnuffOfElsewhere x = of();
    row(x, 0, 1, 99, 47, 9, 60, 1, 59, 10, 12, 3);
    due("three, two of them wrong", x.setBy(0, 1, 1, 3), 1);
    due("size", x.count(0), 1);
    due("kind", x.told(0, 9), 4);
    due("more", x.told(0, 10), 7);
    due("grains", x.told(0, 3), 9);
    due("none", x.setBy(0, 1, 1, 0), 0);
    due("none, outside", x.setBy(0, 1, 99, 0), 0);
    due("what stood ahead came", x.setBy(0, 1, 7, 2), -12);
    due("size", x.count(0), 2);
    due("kind", x.told(1, 9), 1);
    due("half outside", x.setBy(0, 1, 8, 1), -12);
    due("from -1", x.setBy(0, 1, -1, 1), -12);
    due("from LEAST", x.setBy(0, 1, LEAST, 1), -12);
    due("from MOST", x.setBy(0, 1, MOST, 1), -12);
    due("size", x.count(0), 2);
    due("sheet 4", x.setBy(4, 1, 0, 1), BAD);
    due("sheet -1", x.setBy(-1, 1, 0, 1), BAD);
    due("sort 3", x.setBy(1, 3, 0, 1), BAD);
    due("sort -1", x.setBy(1, -1, 0, 1), BAD);
    due("n 7", x.setBy(1, 1, 0, 7), BAD);
    due("n -1", x.setBy(1, 1, 0, -1), BAD);
    due("missing", x.setBy(1, 1, 0, 1), -11);
    due("unlike", x.setBy(0, 2, -1, 1), -13);
    due("unlike", x.setBy(0, 0, 0, 1), -13);
    row(x, 1, 2, 1, 1, 2, 2, 3, 3, 4, 4, 5, 5, 6, 6);
    due("four have room", x.setBy(1, 2, 0, 6), 4);
    due("size", x.count(0), 6);
    due("the last that came", x.told(5, 10), 4);
  }

  private static void p37Taken() {
    SnuffOfElsewhere x = of(0, 1, 10, 1, 20, 1, 30, 1, 40, 1);
    int[] is = {0b000001, 0b000011, 0b000101, 0b001011, 0b010101};
    for (int p = 0; p < 5; p++) {
      x.put(p, 8, 50 + p);
      for (int kind = 0; kind < 6; kind++) {
        due("taken " + p + " " + kind, x.taken(p, kind), (is[p] >> kind & 1) != 0 ? p : -13);
        due("wit taken " + p + " " + kind, x.taken(p + 6, kind), -13);
      }
      due("taken for wit", x.taken(p, 6), -13);
      due("wit", x.taken(p + 6, 6), 50 + p);
    }
    due("none such", x.taken(5, 0), -11);
    due("none such", x.taken(11, 6), -11);
    x.gentleman(50, 1);
    due("horn", x.taken(5, 5), 5);
    due("horn", x.taken(5, 0), 5);
    due("horn", x.taken(5, 1), -13);
    due("place 12", x.taken(12, 0), -12);
    due("place -1", x.taken(-1, 0), -12);
    due("kind 7", x.taken(12, 7), BAD);
    due("kind -1", x.taken(0, -1), BAD);
  }

  public static void main(String[] args) {
    p01NewObject();
    p02Count();
    p03Clock();
    p04Feed();
    p05Text();
    p06Force();
    p07Asks();
    p08Gentleman();
    p09Put();
    p10Told();
    p11Pinches();
    p12Pinch();
    p13Give();
    p14Minute();
    p15Room();
    p16Evening();
    p17Spend();
    p18Plan();
    p19Which();
    p20Tour();
    p21Share();
    p22Box();
    p23Judge();
    p24Kinds();
    p25States();
    p26Whose();
    p27Laws();
    p28Film();
    p29Drawn();
    p30Odds();
    p31p32Image();
    p33Sheet();
    p34Cell();
    p35Copy();
    p36SetBy();
    p37Taken();
    end();
  }
}
