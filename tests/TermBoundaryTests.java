// The boundary cases that the document's terms name, each under the words that name it.
public final class TermBoundaryTests extends Checks {

  // ---- 1 who there is

  private static void minute() {
    says("MINUTE (0 .. 999; 0 at first; in thought it may pass 999)");
    SnuffOfElsewhere x = of(0, 9, 20, 9);
    due("at first", x.count(1), 0);
    due("the least", x.clock(0), 0);
    due("the most", x.clock(999), 0);
    due("above", x.clock(1000), BAD);
    due("below", x.clock(-1), BAD);
    due("no minute behind 999", x.minute(), STATE);
    law(x, "gone 1;gains minute - 990;spills 0;");
    row(x, 0, 2, 0, 1, 2);
    due("999, 1000, 1001", x.evening(0, 10), 9 + 10 + 11);
    due("999, 1000, 1001", x.film(0, 1, 0), 3);
    numbers("999, 1000, 1001", x, 1, 0, 9, 19, 30);
    // a LADY of grains 9 spills in 1000, not in 999
    law(x, "gone 1;gains grains;spills 2;");
    row(x, 0, 2, 15, 0, 0, 0);
    due("nothing spilt in 999", x.evening(0, 10), 9 + 8 + 7);
    row(x, 0, 2, -1, 15, 5);
    x.put(0, 5, 0);
    due("three spilt in 1000", x.evening(0, 10), 3);
    // the tour's 999 and 1001 take a minute, 1000 two
    law(x, "gone 1 + (minute = 1000);gains 0;spills 0;");
    x.put(0, 5, 1);
    due("a tour from 999", x.tour(0, 1), 9);
    due("lots from 999", x.drawn(5, 60, 1) > 0 ? 1 : 0, 1);
    due("it is 999 yet", x.count(1), 999);
  }

  private static void gentlemen() {
    says("GENTLEMEN are numbered from 0 on, 6 at most");
    SnuffOfElsewhere x = of();
    due("none", x.count(0), 0);
    due("not 0 yet", x.told(0, 8), -5);
    for (int p = 0; p < 6; p++) due("one more", x.gentleman(p, p), p);
    due("a seventh", x.gentleman(0, 0), FULL);
    due("six", x.count(0), 6);
    due("the last", x.told(5, 10), 5);
    due("behind the last", x.told(6, 10), -5);
    says("with MORE (0 .. 9)");
    SnuffOfElsewhere y = of(50, 0, 59, 0);
    due("the least", y.told(0, 10), 0);
    due("the most", y.told(1, 10), 9);
    says("GRAINS of each SORT (0 .. 9)");
    due("above", y.gentleman(0, 10), BAD);
    due("below", y.gentleman(0, -1), BAD);
    due("the most", y.gentleman(0, 9), 2);
    for (int sort = 0; sort < 8; sort++) {
      due("none", y.told(0, sort), 0);
      due("nine", y.told(2, sort), 9);
      due("to the most", y.put(0, sort, 9), 0);
      due("above", y.put(0, sort, 10), -7);
      due("to the least", y.put(0, sort, 0), 9);
      due("below", y.put(0, sort, -1), -7);
    }
    says("WIT (0 .. 99; 0 as one comes)");
    due("as one comes", y.told(2, 8), 0);
    due("the most", y.put(2, 8, 99), 0);
    due("above", y.put(2, 8, 100), -7);
    due("below", y.put(2, 8, -1), -7);
    due("the least", y.put(2, 8, 0), 99);
    says("SORTS where one has been (none as one comes)");
    due("as one comes", y.told(2, 11), 0);
    y.pinch(2, 0);
    due("the first of SORTS", y.told(2, 11), 1);
    minutes(y, 3);
    y.pinch(2, 7);
    due("the last of SORTS", y.told(2, 11), 129);
    says("HERE (as one comes), or in a SORT for so many minutes yet (LEFT)");
    due("as one comes", y.told(0, 12), -1);
    due("as one comes", y.told(0, 13), 0);
    due("in a SORT", y.told(2, 12), 7);
    due("for so many minutes", y.told(2, 13), 10);
  }

  // ---- the kinds

  // One of a kind and more, by a law of such numbers, in minute 40, or 41.
  private static SnuffOfElsewhere one(int kindMore, String gone, String gains, String spills) {
    SnuffOfElsewhere x = of(kindMore, 9);
    law(x, "gone " + gone + ";gains " + gains + ";spills " + spills + ";");
    x.clock(40);
    return x;
  }

  private static void gone(int kindMore, int says, int sort, int want) {
    due("gone of " + kindMore + " by " + says + " of " + sort, one(kindMore, "" + says, "0", "0").pinches(0, sort, 0), want);
  }

  private static void gains(int kindMore, int says, int fresh, int known) {
    SnuffOfElsewhere x = one(kindMore, "1", "" + says, "0");
    x.pinch(0, 1);
    due("gains of " + kindMore + " by " + says, x.pinches(0, 2, 1), fresh);
    due("gains of " + kindMore + " by " + says + " again", x.pinches(0, 1, 1), known);
  }

  private static void spills(int kindMore, int says, int even, int odd) {
    SnuffOfElsewhere x = one(kindMore, "1", "0", "" + says);
    String what = "spills of " + kindMore + " by " + says;
    due(what, x.pinches(0, 3, 2), even);
    x.clock(41);
    due(what + " in 41", x.pinches(0, 3, 2), odd);
    x.clock(0);
    due(what + " in 0", x.pinches(0, 3, 2), even);
    x.clock(999);
    due(what + " in 999", x.pinches(0, 3, 2), odd);
  }

  private static void kinds() {
    says("0 GENTLEMAN: that; that; that.");
    for (int v : new int[] {1, 2, 99}) gone(9, v, 7, v);
    for (int v : new int[] {-99, 0, 99}) gains(9, v, v, v);
    for (int v : new int[] {0, 1, 9}) spills(9, v, v, v);
    says("GONE half (cut); GAINS MORE more, if it isn't of one's SAND.");
    for (int v : new int[] {2, 3, 98, 99}) gone(19, v, 7, v / 2);
    gains(10, 7, 7, 7);
    gains(19, 7, 16, 7);
    gains(19, -99, -90, -99);
    gains(19, 99, 108, 99);
    says("2 LADY (a GENTLEMAN): GONE 10 more; SPILLS 1 more in even MINUTES, else 0.");
    for (int v : new int[] {0, 1, 99}) gone(29, v, 7, v + 10);
    for (int v : new int[] {0, 1, 9}) spills(29, v, v + 1, 0);
    says("GAINS 0, if it is of one's SAND, else twice a WIT's; GONE 1 by SORT (MORE modulo 8), else as a WIT.");
    gains(30, 7, 14, 0);
    gains(39, 7, 32, 0);
    gains(39, -99, -180, 0);
    gains(39, 99, 216, 0);
    for (int more = 0; more < 10; more++) {
      for (int sort = 0; sort < 8; sort++) gone(30 + more, 9, sort, sort == (more < 8 ? more : more - 8) ? 1 : 4);
    }
    says("GAINS 0 less a LADY's; GONE 99 by SORT 7, else a third (cut) of a LADY's.");
    gains(49, 99, -99, -99);
    gains(49, -99, 99, 99);
    gains(49, 0, 0, 0);
    gone(49, 0, 7, 99);
    gone(49, 99, 7, 99);
    gone(49, 0, 6, 3);
    gone(49, 1, 6, 3);
    gone(49, 2, 6, 4);
    gone(49, 99, 0, 36);
    says("5 HORN (a GENTLEMAN): GONE MORE; SPILLS 0.");
    for (int more = 1; more < 10; more++) gone(50 + more, 99, 7, more);
    for (int v : new int[] {0, 1, 9}) spills(59, v, 0, 0);
    says("Whatever isn't told is as of the KIND above.");
    for (int v : new int[] {0, 1, 9}) spills(19, v, v, v);
    for (int v : new int[] {0, 1, 9}) spills(39, v, v, v);
    for (int v : new int[] {0, 1, 9}) spills(49, v, v + 1, 0);
    for (int v : new int[] {-99, 0, 99}) gains(29, v, v, v);
    for (int v : new int[] {-99, 0, 99}) gains(59, v, v, v);
    says("GONE 1 at least, SPILLS 0 at least.");
    gone(9, 0, 0, 1);
    gone(19, 0, 0, 1);
    gone(19, 1, 0, 1);
    gone(39, 0, 0, 1);
    gone(39, 1, 0, 1);
    gone(50, 99, 0, 1);
    for (int kind = 0; kind < 6; kind++) due("spills", one(10 * kind, "1", "0", "-7").pinches(0, 0, 2), kind == 2 || kind == 4 ? 1 : 0);
  }

  // ---- the texts

  private static String ones(int n) {
    return "1" + "+1".repeat(n - 1);
  }

  private static void tape() {
    says("A TEXT is read from THE TAPE (160 bytes at most).");
    String most = "gone 1;gains " + ones(69) + ";spills 0;";
    SnuffOfElsewhere x = of(0, 0);
    due("bytes", most.length(), 160);
    due("160", text(x, most), 1);
    x.force(1);
    due("all of it", x.asks(1, 0, 0), 69);
    feed(x, most);
    due("161", x.feed(1, ' ', 0, 0, 0, 0), FULL);
    due("160", x.count(5), 160);
    fault(most.substring(0, 159) + "1", 160);
    fault(most.substring(0, 159) + "x", 159);
    String deep = "0or 1and 1<1+1*(".repeat(5) + "1" + ")".repeat(5);
    worth(deep, 1);
    worth("3-(2*(3-(2*(3-2))))", 1);
    says("TOKENS, each as long as can be: WORDS (as many letters a .. z as stand there)");
    fault("gonesort;", 0);
    fault("gone sortsort;", 5);
    fault("gone sort sort;", 10);
    fault("gone s ort;", 5);
    fault("gone sortz;", 5);
    fault("gone sorta;", 5);
    fault("gonez1;", 0);
    fault("gone 1 orand 1;", 7);
    worth("sort+more", 11);
    worth("not0or 0and0", 1);
    says("NUMBERS (as many digits as stand there; more than 4 are too long)");
    stands("gone 9999;gains 0000;spills 0001;");
    worth("9999-9990", 9);
    worth("0100-0099", 1);
    fault("gone 10000;", 5);
    fault("gone 00000;", 5);
    fault("gone 123456789012345678901234567890;", 5);
    fault("gone 12 34;", 8);
    says("blanks (32, 10) may stand between");
    stands("gone 1;gains 1;spills 1;");
    stands(" \n gone\n\n1 \n;\ngains(1);spills\n1\n;  \n");
    fault("   \n", 4);
    for (int b = 0; b < 256; b++) {
      boolean blank = b == 32 || b == 10;
      if (b == 9 || b == 11 || b == 12 || b == 13 || b == 0 || b == 160) fault("gone" + (char) b + "1;", 4);
      fault("" + (char) b, blank ? 1 : 0);
      fault("gone " + (char) b, blank || b >= '0' && b <= '9' || b == '(' || b == '-' ? 6 : 5);
      boolean more = b >= '0' && b <= '9' || ";+-*<=".indexOf(b) >= 0;
      fault("gone 1" + (char) b, blank || more ? 7 : 6);
      fault("gone (1" + (char) b, blank || more && b != ';' || b == ')' ? 8 : 7);
    }
  }

  private static void grammar() {
    says("TEXT: gone E ; gains E ; spills E ;");
    fault("", 0);
    fault("gone", 4);
    fault("gone 1", 6);
    fault("gone 1;", 7);
    fault("gone 1;gains 1;", 15);
    fault("gone 1;gains 1;spills 1", 23);
    stands("gone 1;gains 1;spills 1;");
    fault("gone 1;gains 1;spills 1;;", 24);
    fault("gone 1;gains 1;spills 1; gone", 25);
    fault("gone 1;gains 1;spills 1; 00000", 25);
    fault("gains 1;", 0);
    fault("gone 1;gone 1;", 7);
    fault("gone 1;spills 1;", 7);
    fault("gone 1;gains 1;gains 1;", 15);
    fault("gone;", 4);
    fault(";", 0);
    says("E: AND { or AND }. AND: NOT { and NOT }.");
    worth("1or 0and 0", 1);
    worth("(1or 0)and 0", 0);
    worth("0or 0or 0or 8", 1);
    worth("8and 8and 8and 0", 0);
    fault("gone 1 or;", 9);
    fault("gone 1 and or 1;", 11);
    fault("gone and 1;", 5);
    says("NOT: not NOT, or SUM, perhaps < or = and a SUM.");
    worth("not not 7", 1);
    worth("not 2<1", 1);
    worth("(not 2)<1", 1);
    worth("not 1=1+1", 1);
    worth("2<1+2", 1);
    fault("gone 1<not 1;", 7);
    fault("gone 1=not 1;", 7);
    fault("gone 1+not 1;", 7);
    fault("gone 1*not 1;", 7);
    fault("gone -not 1;", 6);
    fault("gone 1 not 1;", 7);
    fault("gone 1<2<3;", 8);
    fault("gone 1=2=3;", 8);
    fault("gone 1<2=3;", 8);
    fault("gone 1=2<3;", 8);
    fault("gone 1<;", 7);
    fault("gone <1;", 5);
    says("SUM: TERM { + or - TERM }. TERM: ONE { * ONE }.");
    worth("9-3-2", 4);
    worth("9-3*2", 3);
    worth("9*3-2", 25);
    worth("2*2*2*2", 16);
    fault("gone 1+;", 7);
    fault("gone 1++1;", 7);
    fault("gone +1;", 5);
    fault("gone 1**1;", 7);
    fault("gone *1;", 5);
    says("ONE: a NUMBER, a NAME, - ONE, ( E ).");
    worth("--5", 5);
    worth("-(1+2)*3", -9);
    worth("9--5", 14);
    worth("-2*-3", 6);
    worth("(1or 0)+(0and 1)", 1);
    fault("gone ();", 6);
    fault("gone (1;", 7);
    fault("gone 1);", 6);
    fault("gone (1));", 8);
    fault("gone 1 1;", 7);
    fault("gone 1(1);", 6);
    fault("gone sort(1);", 9);
    says("NAMES: sort grains wit sand minute more.");
    for (String word : new String[] {"gone", "gains", "spills", "or", "and"}) fault("gone " + word + ";", 5);
    for (String word : new String[] {"sorts", "grain", "wi", "sandy", "minutes", "mor", "Sort", "e"}) fault("gone " + word + ";", 5);
  }

  private static void worths() {
    says("An E is an int (32 bits, wrapping)");
    // 2 to the 31st, by 8192 * 8192 * 32, is the least there is; one less the most
    worth("8192*8192*32<0", 1);
    worth("8192*8192*32-1<0", 0);
    worth("8192*8192*32-1+1<0", 1);
    worth("-(8192*8192*32)=8192*8192*32", 1);
    worth("0-8192*8192*32<0", 1);
    worth("8192*8192*64=0", 1);
    worth("8192*8192*64", 0);
    worth("9999*9999*43", 99);
    worth("9999*9999*43-4172*1000-700", 47);
    worth("9999*9999*22", -99);
    says("of or, and, not, <, = 1 or 0 (what is not 0 is true)");
    for (int v : new int[] {-7, -1, 0, 1, 7}) {
      int is = v == 0 ? 0 : 1;
      worth("0or " + v, is);
      worth(v + " or 0", is);
      worth("2or " + v, 1);
      worth("2and " + v, is);
      worth(v + " and 2", is);
      worth("0and " + v, 0);
      worth("not " + v, 1 - is);
      worth(v + "<0", v < 0 ? 1 : 0);
      worth("0<" + v, v > 0 ? 1 : 0);
      worth(v + "=7", v == 7 ? 1 : 0);
    }
    worth("8192*8192*32and 1", 1);
    worth("not 8192*8192*32", 0);
    says("gone 0 .. 99, gains -99 .. 99, spills 0 .. 9, else the bound");
    bounds("0", 0, 0, 0);
    bounds("9", 9, 9, 9);
    bounds("10", 10, 10, 9);
    bounds("99", 99, 99, 9);
    bounds("100", 99, 99, 9);
    bounds("-1", 0, -1, 0);
    bounds("-99", 0, -99, 0);
    bounds("-100", 0, -99, 0);
    bounds("8192*8192*32", 0, -99, 0);
    bounds("8192*8192*32-1", 99, 99, 9);
    says("sort: it; grains: GRAINS of it; wit: WIT; sand: how many SORTS are of one's SAND; minute: MINUTE; more: MORE.");
    worth("sort", 5);
    worth("grains", 4);
    worth("wit", 30);
    worth("sand", 2);
    worth("minute", 17);
    worth("more", 6);
    SnuffOfElsewhere x = of(0, 0, 59, 9);
    law(x, "gone sort + 10*grains;gains wit + sand;spills more;");
    for (int sort = 0; sort < 8; sort++) x.put(1, sort, sort + 1);
    x.put(1, 8, 99);
    due("the first", x.asks(0, 0, 0), 0);
    due("of sort 7", x.asks(0, 1, 7), 87);
    due("of sort 0", x.asks(0, 1, 0), 10);
    due("wit 99, no sand", x.asks(1, 1, 7), 99);
    due("more 9", x.asks(2, 1, 7), 9);
    due("of none", x.asks(1, 0, 7), 0);
    law(x, "gone minute - 950;gains sand;spills 0;");
    x.clock(999);
    due("minute 999", x.asks(0, 0, 0), 49);
    for (int sort = 0; sort < 8; sort++) {
      x.clock(0);
      due("sand", x.asks(1, 1, 0), sort);
      x.pinch(1, sort);
      minutes(x, 9);
    }
    due("all the sand", x.asks(1, 1, 0), 8);
  }

  private static void bounds(String e, int gone, int gains, int spills) {
    SnuffOfElsewhere x = of(0, 0);
    law(x, "gone " + e + ";gains " + e + ";spills " + e + ";");
    due("gone " + e, x.asks(0, 0, 0), gone);
    due("gains " + e, x.asks(1, 0, 0), gains);
    due("spills " + e, x.asks(2, 0, 0), spills);
  }

  private static void faults() {
    says("the place of the first byte of the first TOKEN that can't stand there (the text's size, if it ends too early)");
    fault("gone sort ; gains spills 1 x", 18);
    fault("gone sort ; gains 1 00001 x", 20);
    fault("gone sort  \n ", 13);
    fault("gone 1;gains 1;spills ", 22);
    fault("gone (", 6);
    fault("gone 1 or ", 10);
    fault("gone not", 8);
    fault("x".repeat(160), 0);
    fault(" ".repeat(159) + "1", 159);
    fault(" ".repeat(160), 160);
    says("also of a byte that begins none");
    fault("gone 1;gains 1;spills 1;" + (char) 0, 24);
    fault("gone 1 / 2;", 7);
    fault("gone 1 > 2;", 7);
    fault("gone G;", 5);
    fault("gone " + (char) 255 + ";", 5);
    says("of a WORD that is neither KEY nor NAME");
    fault("gone 1;gains witty;", 13);
    fault("gone 1 xor 1;", 7);
    fault("gon 1;", 0);
    fault("goned 1;", 0);
    fault("hone 1;", 0);
    fault("gonf 1;", 0);
    fault("gone nort;", 5);
    // it is no second of what stands ahead of it
    fault("gone not x 1;", 9);
    fault("gone -x 1;", 6);
    fault("gone (x 1;", 6);
    fault("gone 1;x gains 1;", 7);
    says("a NUMBER that is too long");
    fault("gone 1;gains 12345;", 13);
    fault("gone 1;gains (1+12345);", 16);
    says("a ( , a not, a - ahead of a ONE while 5 of these are open");
    stands("gone (((((1)))));gains -----1;spills not not not not not 1;");
    stands("gone not (not -(1));gains -(not (not 1));spills (-(not (1)));");
    fault("gone not (not -(-1));", 16);
    fault("gone ((((((1))))));", 10);
    fault("gone ------1;", 10);
    fault("gone not not not not not not 1;", 25);
    fault("gone (((((-1)))));", 10);
    fault("gone (((((not 1)))));", 10);
    fault("gone -----(1);", 10);
    fault("gone not not not not not -1;", 25);
    fault("gone not not not not not (1);", 25);
    fault("gone ((((not -1))));", 13);
    fault("gone not ----(1);", 13);
    // what can't stand there faults for that, though 5 are open; a - between two is none of these
    fault("gone ((((()))));", 10);
    stands("gone (((((1-1)))));gains (((((1-1-1)))));spills -----1-1;");
    fault("gone (((((1--1)))));", 12);
    says("(a ( till its ) , not and - till what they belong to ends)");
    stands("gone (((((1)))))+(((((1)))));gains 1;spills 1;");
    stands("gone (((((1))))+((((1)))));gains 1;spills 1;");
    fault("gone (((((1))))+(((((1))))));", 20);
    stands("gone -----1+-----1;gains -----1*-----1;spills -----1<-----1;");
    fault("gone -----1+------1;", 17);
    fault("gone -(-(1)+-(-1))+-----1;gains ------1;", 37);
    stands("gone not not not not not 1 and not not not not not 1;gains 1;spills 1;");
    // a not is open to the end of its NOT, the sum behind < too
    fault("gone not 1<((((((1))))));", 15);
    fault("gone not 1<(((((1)))));", 15);
    stands("gone not 1<((((1)))) or (((((1)))));gains 1;spills 1;");
    stands("gone not 1+((((1))))*((((1))));gains 1;spills 1;");
    fault("gone not 1+(((((1)))));", 15);
    fault("gone not not 1+((((1))));", 18);
    stands("gone -1+(((((1)))));gains -1*(((((1)))));spills 1;");
    fault("gone -(((((1)))));", 10);
    stands("gone -((((1))))+(((((1)))));gains 1;spills 1;");
  }

  private static void texts() {
    says("TEXTS are numbered from 0 on, 6 at most");
    SnuffOfElsewhere x = of(0, 0);
    due("one at first", x.count(3), 1);
    for (int t = 1; t < 6; t++) due("one more", text(x, "gone " + t + ";gains 0;spills 0;"), t);
    due("six", x.count(3), 6);
    due("a seventh", text(x, "gone 6;gains 0;spills 0;"), FULL);
    due("six", x.count(3), 6);
    for (int t = 5; t > 0; t--) {
      x.force(t);
      due("each its own", x.asks(0, 0, 0), t);
    }
    says("TEXT 0, at first, and THE LAW: gone 3 + sort ; gains sort * 2 ; spills 0 ;");
    SnuffOfElsewhere y = of(9, 9);
    y.put(0, 8, 99);
    y.clock(998);
    due("the law", y.count(4), 0);
    for (int sort = 0; sort < 8; sort++) {
      due("gone", y.asks(0, 0, sort), 3 + sort);
      due("gains", y.asks(1, 0, sort), 2 * sort);
      due("spills", y.asks(2, 0, sort), 0);
    }
  }

  // ---- 2 pinches, minutes, evenings

  private static void pinches() {
    says("One CAN take a PINCH of a SORT, if one is HERE, and has GRAINS of it.");
    SnuffOfElsewhere x = of(0, 1, 53, 0);
    due("not without grains", x.pinch(1, 4), STATE);
    x.put(1, 4, 1);
    due("by one grain", x.pinch(1, 4), 3);
    due("not of another sort", x.pinch(1, 5), STATE);
    x.put(1, 5, 9);
    due("not while one is gone", x.pinch(1, 5), STATE);
    minutes(x, 2);
    due("not while one is gone", x.pinch(1, 5), STATE);
    x.minute();
    due("as soon as one is here", x.pinch(1, 5), 3);
    says("A PINCH (GONE, GAINS, SPILLS told ahead)");
    SnuffOfElsewhere y = of(0, 3, 0, 3);
    law(y, "gone grains;gains wit + 1;spills sand;");
    due("gone by 3", y.pinch(0, 0), 3);
    due("by wit 0", y.told(0, 8), 1);
    due("by no sand", y.told(0, 0), 2);
    minutes(y, 3);
    y.put(0, 8, 10);
    due("gone by 3", y.pinch(0, 5), 3);
    due("by wit 10", y.told(0, 8), 21);
    due("by one of sand", y.told(0, 5), 1);
    due("by one of sand", y.told(1, 5), 4);
    says("GRAINS of it are 1 less");
    SnuffOfElsewhere z = of(0, 9);
    z.pinch(0, 7);
    for (int sort = 0; sort < 8; sort++) due("grains", z.told(0, sort), sort == 7 ? 8 : 9);
    spilling();
    witting();
  }

  // By 9 grains spilt: one has mine, the next one theirs; what these have then.
  private static void spilt(int mine, int theirs, int says, int mineThen, int theirsThen) {
    for (int p = 0; p < 3; p++) {
      SnuffOfElsewhere x = of(0, 0, 0, 0, 0, 0);
      law(x, "gone 1;gains 0;spills " + says + ";");
      int next = p == 2 ? 0 : p + 1, other = 3 - p - next;
      x.put(p, 6, mine);
      x.put(next, 6, theirs);
      x.put(other, 6, 4);
      String what = mine + " and " + theirs + " by " + says + " of " + p;
      due(what, x.pinch(p, 6), 1);
      due(what + ", one's", x.told(p, 6), mineThen);
      due(what + ", the next one's", x.told(next, 6), theirsThen);
      due(what + ", another one's", x.told(other, 6), 4);
      due(what + ", of another sort", x.told(next, 5), 0);
    }
  }

  private static void spilling() {
    says("then the next one by numbers (behind the last one 0), if that is another one,");
    SnuffOfElsewhere alone = of(20, 9);
    law(alone, "gone 1;gains 0;spills 9;");
    alone.pinch(0, 2);
    due("alone, nothing is spilt", alone.told(0, 2), 8);
    SnuffOfElsewhere two = of(0, 9, 0, 0);
    law(two, "gone 1;gains 0;spills 3;");
    two.pinch(0, 2);
    due("the last one", two.told(1, 2), 3);
    two.pinch(1, 2);
    due("behind the last one 0", two.told(0, 2), 7);
    says("has as many GRAINS of it more, and one as many less, as one SPILLS, no more than one has yet, than that one has room for (9)");
    spilt(9, 0, 0, 8, 0);
    spilt(9, 0, 1, 7, 1);
    spilt(9, 0, 8, 0, 8);
    spilt(9, 0, 9, 0, 8);
    spilt(1, 0, 9, 0, 0);
    spilt(2, 0, 9, 0, 1);
    spilt(5, 0, 4, 0, 4);
    spilt(5, 0, 5, 0, 4);
    spilt(9, 9, 9, 8, 9);
    spilt(9, 8, 9, 7, 9);
    spilt(9, 5, 4, 4, 9);
    spilt(9, 5, 5, 4, 9);
    spilt(3, 8, 9, 1, 9);
    spilt(3, 7, 9, 0, 9);
  }

  private static void wit(int was, int gains, int then) {
    SnuffOfElsewhere x = of(0, 9);
    law(x, "gone 1;gains " + gains + ";spills 0;");
    x.put(0, 8, was);
    x.pinch(0, 0);
    due(was + " and " + gains, x.told(0, 8), then);
  }

  private static void witting() {
    says("WIT is more by what one GAINS (0 .. 99, else the bound)");
    wit(0, 99, 99);
    wit(1, 99, 99);
    wit(99, 99, 99);
    wit(98, 1, 99);
    wit(99, 1, 99);
    wit(98, 2, 99);
    wit(99, -99, 0);
    wit(98, -99, 0);
    wit(0, -99, 0);
    wit(1, -1, 0);
    wit(0, -1, 0);
    wit(50, 0, 50);
    says("it is of one's SAND; one is in it, LEFT being for how many minutes one is GONE.");
    SnuffOfElsewhere x = of(53, 9, 40, 9);
    int sand = 0;
    for (int sort : new int[] {0, 7, 3, 7}) {
      due("gone", x.pinch(0, sort), 3);
      sand |= 1 << sort;
      due("sand", x.told(0, 11), sand);
      due("in it", x.told(0, 12), sort);
      due("left", x.told(0, 13), 3);
      minutes(x, 3);
    }
    due("a footman's 7", x.pinch(1, 7), 99);
    due("left", x.told(1, 13), 99);
  }

  private static void passing() {
    says("A MINUTE: LEFT of all who aren't HERE is 1 less; is it 0, one is HERE; MINUTE is 1 more.");
    SnuffOfElsewhere x = of(51, 9, 52, 9, 53, 9, 50, 9);
    for (int p = 0; p < 3; p++) x.pinch(p, p);
    for (int left = 0; left < 3; left++) {
      due("comes", x.minute(), 1 << left);
      due("minute", x.count(1), left + 1);
      for (int p = 0; p < 4; p++) {
        int yet = p == 3 ? 0 : Math.max(0, p - left);
        due("left", x.told(p, 13), yet);
        due("where", x.told(p, 12), yet > 0 ? p : -1);
      }
    }
    due("nobody", x.minute(), 0);
    due("minute", x.count(1), 4);
    says("An EVENING: PINCHES (10 times who, and the SORT; -1: nobody's), one behind the other, those that CAN'T be taken left out; "
      + "behind each of all, left out or not, a MINUTE.");
    for (int way = 0; way < 3; way++) {
      SnuffOfElsewhere y = of(3, 1, 52, 9);
      // 0's first is taken, gone 3; -1 and one that can't be let minutes pass; 1 by 7 twice, gone 2
      row(y, 0, way, 0, -1, 1, 17, 0, 17, 2);
      due("taken", y.evening(0, 0), 4);
      due("the first left out", y.evening(0, 3), 2);
      due("gone at once", y.evening(0, 1), 2);
      due("gone, of all minutes", y.evening(0, 2), 1 + 1 + 1 + 1 + 1 + 1 + 2);
      due("it, truly", y.spend(0), 4);
      due("minutes", y.count(1), 7);
      due("grains", y.told(0, 0), 0);
      due("sand", y.told(0, 11), 0b101);
      due("left of 0", y.told(0, 13), 4);
      due("left of 1", y.told(1, 13), 0);
    }
  }

  private static void allPinches() {
    says("10 times who, and the SORT; -1: nobody's");
    SnuffOfElsewhere x = of(0, 9, 19, 9, 28, 9, 36, 9, 47, 9, 15, 9);
    for (int p = 0; p < 6; p++) {
      for (int sort = 0; sort < 8; sort++) {
        row(x, 0, 0, 10 * p + sort);
        due("taken", x.evening(0, 0), 1);
        due("sand", x.evening(0, 20 + p), 1 << sort);
        due("wit", x.evening(0, 10 + p), Math.max(0, x.pinches(p, sort, 1)));
      }
    }
    row(x, 0, 0, -1);
    due("taken", x.evening(0, 0), 0);
    for (int p = 0; p < 6; p++) due("sand", x.evening(0, 20 + p), 0);
  }

  // ---- lots, images, sheets, refusals

  private static void lots() {
    int[] six = {1, 9, 52, 9, 39, 9, 3, 9, 55, 9, 14, 9};
    says("the first is (SEED and 1) times 48271 modulo 2147483647, each further one the last times 48271 modulo 2147483647");
    for (int seed : new int[] {0, 1, 2, 44487, 44488, 99998, 99999}) {
      for (int n : new int[] {0, 1, 2, 40, 60}) {
        int[] due = spent(of(six), seed, n);
        due("wit by " + seed + ", " + n, of(six).drawn(seed, n, 0), due[0]);
        due("taken by " + seed + ", " + n, of(six).drawn(seed, n, 1), due[1]);
      }
    }
    says("a PINCH of who is numbered LOT modulo 6, of SORT the other LOT modulo 8, if there is one, and that one CAN");
    for (int size = 0; size <= 6; size++) {
      for (int seed : new int[] {0, 17, 99999}) {
        int[] some = java.util.Arrays.copyOf(six, 2 * size);
        int[] due = spent(of(some), seed, 60);
        due("wit of " + size, of(some).drawn(seed, 60, 0), due[0]);
        due("taken of " + size, of(some).drawn(seed, 60, 1), due[1]);
      }
    }
    SnuffOfElsewhere poor = of(0, 0, 0, 0, 0, 0, 0, 0, 0, 0, 0, 0);
    due("nobody has grains", poor.drawn(0, 60, 1), 0);
    poor.put(1, 2, 1);
    due("seed 0: 1 by sort 2", poor.drawn(0, 1, 1), 1);
    due("seed 0: 1 by sort 2", poor.drawn(0, 1, 0), 4);
  }

  private static void images() {
    says("AN IMAGE keeps GRAINS, WIT, SAND of all, where all are, LEFT, how many GENTLEMEN there are, MINUTE, THE LAW.");
    SnuffOfElsewhere x = of(0, 1, 19, 2, 28, 3, 37, 4, 46, 5, 55, 6);
    for (int p = 0; p < 6; p++) x.put(p, 8, 40 + p);
    for (int p = 0; p < 6; p += 2) x.pinch(p, p + 1);
    text(x, "gone 4;gains 4;spills 4;");
    x.clock(77);
    int[] was = of(x);
    due("image", x.image(), 6);
    for (int p = 0; p < 6; p++) {
      for (int sort = 0; sort < 8; sort++) x.put(p, sort, 7);
      x.put(p, 8, 99 - p);
    }
    minutes(x, 14);
    for (int p = 0; p < 6; p++) x.pinch(p, 6);
    x.force(1);
    x.minute();
    due("back", x.back(), 6);
    int[] is = of(x);
    for (int i = 0; i < is.length; i++) due("number " + i, is[i], was[i]);
  }

  private static int[] of(SnuffOfElsewhere x) {
    int[] all = new int[6 * 14 + 6];
    for (int i = 0; i < 6 * 14; i++) all[i] = x.told(i / 14, i % 14);
    for (int what = 0; what < 6; what++) all[6 * 14 + what] = x.count(what);
    return all;
  }

  private static void sheets() {
    says("SHEETS 0 .. 3 are rows of numbers, or missing (as all are at first): of sort 0 bytes, 1 shorts, 2 ints, 40 at most.");
    SnuffOfElsewhere x = of(0, 9);
    for (int s = 0; s < 4; s++) {
      due("missing", x.cell(s, 0, 0), -11);
      due("missing", x.evening(s, 0), -11);
    }
    for (int s = 0; s < 4; s++) {
      for (int sort = 0; sort < 3; sort++) {
        due("41", x.sheet(s, sort, 41), BAD);
        due("40", x.sheet(s, sort, 40), 1);
        due("the last", x.cell(s, 39, -1), 1);
        due("behind", x.cell(s, 40, -1), -12);
        due("0", x.sheet(s, sort, 0), 1);
        due("none", x.cell(s, 0, -1), -12);
      }
    }
    due("no sheet", x.sheet(4, 0, 1), BAD);
    due("no sheet", x.sheet(-1, 0, 1), BAD);
    due("no sort", x.sheet(0, 3, 1), BAD);
  }

  private static void refusals() {
    says("of several the first one told (a -1 that is an answer comes behind the refusal of a number)");
    SnuffOfElsewhere x = of(0, 0);
    due("which", x.which(0, 2), -7);
    due("which", x.which(0, 0), -1);
    due("tour", x.tour(0, 2), -7);
    due("tour", x.tour(0, 0), -1);
    due("tour", x.tour(0, 1), -1);
    due("told", x.told(1, 12), -5);
    due("told", x.told(0, 12), -1);
    row(x, 0, 2, -1);
    row(x, 1, 2, 5);
    due("evening", x.evening(0, 4), -7);
    due("evening", x.evening(0, 3), -1);
    due("states", x.states(0, 1, 0, 0, 2), -7);
    due("states", x.states(0, 1, 0, 0, 1), -1);
    due("states", x.states(0, 1, 0, 9, 1), -7);
    row(x, 1, 2, 0);
    due("judge", x.judge(0, 1, 1), -5);
    due("judge", x.judge(0, 1, 0), -1);
    due("share", of().share(0, 2), BAD);
    due("share", of().share(8, 0), BAD);
    due("share", of().share(0, 0), -1);
    says("They change nothing, but where it is told.");
    // the ranges of PromiseBoundaryTests look at this for every number; here what is no number's
    SnuffOfElsewhere full = scene();
    for (int i = 0; i < 3; i++) full.gentleman(0, 0);
    for (int i = 0; i < 3; i++) due("FULL", full.gentleman(55, 5), FULL);
    due("six", full.count(0), 6);
    due("as it was", full.told(5, 9), 0);
    refused(STATE, "pinch", 1, 0);
    refused(-5, "give", 0, 0, 0);
    SnuffOfElsewhere late = scene();
    late.clock(999);
    due("STATE", late.minute(), STATE);
    due("STATE", late.spend(0), STATE);
    late.clock(40);
    asBefore("STATE", late);
    SnuffOfElsewhere tape = scene();
    due("no image", of().back(), STATE);
    due("a FAULT", tape.text(), -107);
    due("told: THE TAPE is empty then", tape.count(5), 0);
    feed(tape, "gone 2;");
    asBefore("a FAULT", tape);
  }

  private static void asked() {
    says("What is asked changes nothing, but where it is told.");
    SnuffOfElsewhere x = scene();
    for (int i = 0; i < 6; i++) x.count(i);
    for (int i = 0; i < 3; i++) {
      x.asks(i, i, i);
      x.told(i, i);
      x.pinches(i, i, i);
      x.plan(i, 20 * i, i / 2);
      x.which(i, i / 2);
      x.tour(i, i / 2);
      x.tour(i, 1);
      x.box(i, i / 2);
      x.share(i, i / 2);
      x.judge(0, 1, i);
      x.kinds(0, 1, i, 0);
      x.kinds(0, 1, i, 1);
      x.states(0, 1, i, i, i / 2);
      x.states(0, 1, i, 8, i / 2);
      x.laws(0, 1, i);
      x.drawn(i, 60, i / 2);
      x.evening(0, i);
      x.evening(0, 10 + i);
      x.evening(0, 20 + i);
    }
    for (int i = 0; i < 10; i++) x.room(i);
    x.evening(0, 3);
    x.whose(0, 1);
    x.odds(0, 40, 30, 0);
    for (int i = 0; i < 12; i++) x.taken(i, i / 2);
    asBefore("asked", x);
  }

  public static void main(String[] args) {
    under("Terms");
    minute();
    gentlemen();
    kinds();
    tape();
    grammar();
    worths();
    faults();
    texts();
    pinches();
    passing();
    allPinches();
    lots();
    images();
    sheets();
    refusals();
    asked();
    end();
  }
}
