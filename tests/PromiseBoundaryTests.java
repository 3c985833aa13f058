// The boundary cases that each promise names, each under the words that name it; those of the terms have a test of their own.
public final class PromiseBoundaryTests extends Checks {

  // ---- 1 .. 11 the set, the law

  private static void p01() {
    under("Promise 1: A new object");
    says("No GENTLEMEN.");
    SnuffOfElsewhere x = of();
    int[] counts = {0, 0, 0, 1, 0, 0};
    for (int what = 0; what < 6; what++) due("count " + what, x.count(what), counts[what]);
    due("NONE", SnuffOfElsewhere.NONE, -1);
    for (int what = 0; what < 10; what++) due("room " + what, x.room(what), 0);
    for (int what = 0; what < 14; what++) due("told " + what, x.told(0, what), -5);
    due("box", x.box(0, 0), NO);
    due("image", x.image(), 0);
    due("minute", x.minute(), 0);
    due("drawn", x.drawn(0, 60, 0), 0);
    due("odds", x.odds(0, 40, 0, 0), 1);
    due("odds", x.odds(0, 40, 1, 0), 0);
    row(x, 0, 2, -1, -1);
    due("evening", x.evening(0, 1), 0);
    due("evening", x.evening(0, 10), -7);
    due("evening", x.evening(0, 20), -7);
    due("spend", x.spend(0), 0);
    row(x, 1, 2, 0);
    due("whose", x.whose(0, 1), 0);
    due("judge", x.judge(0, 1, 0), -5);
    due("an evening of somebody", x.evening(1, 0), BAD);
    due("taken", x.taken(0, 0), -11);
  }

  private static void p02() {
    under("Promise 2: count");
    says("BAD.");
    range("count", 0, 0, 5, BAD, 0);
    says("2 who are HERE (how many)");
    SnuffOfElsewhere x = of(1, 9, 2, 9, 3, 9, 4, 9, 5, 9, 6, 9);
    for (int p = 5; p >= 0; p--) {
      due("here", x.count(2), p + 1);
      x.pinch(p, 0);
    }
    due("nobody", x.count(2), 0);
    due("gentlemen", x.count(0), 6);
    minutes(x, 2);
    due("a minute yet", x.count(2), 0);
    x.minute();
    due("all again", x.count(2), 6);
    says("5 bytes of THE TAPE");
    due("none", x.count(5), 0);
    x.feed(1, 255, 0, 0, 0, 0);
    due("one", x.count(5), 1);
    x.text();
    due("none", x.count(5), 0);
  }

  private static void p03() {
    under("Promise 3: clock");
    says("MINUTE becomes v, all else as it is: what it was.");
    SnuffOfElsewhere x = scene();
    due("to 999", x.clock(999), 40);
    due("to 0", x.clock(0), 999);
    due("the same", x.clock(0), 0);
    due("back", x.clock(40), 0);
    asBefore("there and back", x);
    says("BAD.");
    range("clock", 0, 0, 999, BAD, 0);
  }

  private static void p04() {
    under("Promise 4: feed");
    says("The first n (1 .. 5) of five bytes (0 .. 255 each) come behind THE TAPE's, one by one: how many it has.");
    // of the letters of a name only the first n count
    String[] faults = {"g", "go", "gon", "gone", "gone1"};
    for (int n = 1; n <= 5; n++) {
      SnuffOfElsewhere x = of();
      due("n " + n, x.feed(n, 'g', 'o', 'n', 'e', '1'), n);
      due("n " + n, x.count(5), n);
      due(faults[n - 1], x.text(), n < 4 ? -100 : -100 - n);
    }
    SnuffOfElsewhere y = of();
    for (int i = 0; i < 32; i++) due("to 160", y.feed(5, 0, 255, 0, 255, 0), 5 * i + 5);
    says("BAD: n, any of the five;");
    for (int n : new int[] {1, 5}) {
      range("feed", 0, 1, 5, BAD, n, 65, 65, 65, 65, 65);
      for (int i = 1; i < 6; i++) range("feed", i, 0, 255, BAD, n, 65, 65, 65, 65, 65);
    }
    due("ahead of FULL", y.feed(0, 0, 0, 0, 0, 0), BAD);
    for (int i = 0; i < 5; i++) {
      int[] a = {1, 0, 0, 0, 0, 0};
      a[i + 1] = 256;
      due("ahead of FULL", answer(y, "feed", a), BAD);
    }
    says("FULL: they have not all room (none comes).");
    for (int room = 0; room < 5; room++) {
      SnuffOfElsewhere x = of();
      feed(x, "g".repeat(160 - room));
      for (int n = room + 1; n <= 5; n++) due("room for " + room, x.feed(n, 0, 0, 0, 0, 0), FULL);
      due("none came", x.count(5), 160 - room);
      if (room > 0) due("just room", x.feed(room, 'g', 'g', 'g', 'g', 'g'), 160);
      due("full", x.feed(1, 0, 0, 0, 0, 0), FULL);
    }
    SnuffOfElsewhere z = of();
    feed(z, "gone 1;" + " ".repeat(151));
    due("room for 2", z.feed(3, '2', '2', '2', '2', '2'), FULL);
    due("none came: the end", z.text(), -258);
  }

  private static void p05() {
    under("Promise 5: text");
    says("THE TAPE, which is empty then (by a FAULT, too), is a TEXT: its number; -100 less the place of its FAULT.");
    SnuffOfElsewhere x = of();
    due("an empty tape", x.text(), -100);
    due("a fault", text(x, "gone 1;"), -107);
    due("empty", x.count(5), 0);
    due("no text", x.count(3), 1);
    due("nothing of it stays", x.text(), -100);
    due("nothing of it stays", text(x, "gains 1;spills 1;"), -100);
    due("a text", text(x, "gone 1;gains 1;spills 1;"), 1);
    due("empty", x.count(5), 0);
    due("the law stays", x.count(4), 0);
    due("nothing of it stays", x.text(), -100);
    due("the last place", text(x, " ".repeat(160)), -260);
    due("the last byte", text(x, " ".repeat(159) + "x"), -259);
    says("FULL (ahead of the FAULT; then THE TAPE stays).");
    for (int t = 2; t < 6; t++) due("text", text(x, "gone 1;gains 1;spills 1;"), t);
    due("FULL of an empty tape", x.text(), FULL);
    feed(x, "x");
    due("FULL ahead of the FAULT", x.text(), FULL);
    due("it stays", x.count(5), 1);
    due("FULL again", x.text(), FULL);
    feed(x, "x".repeat(159));
    due("FULL with a full tape", x.text(), FULL);
    due("it stays", x.count(5), 160);
    due("six", x.count(3), 6);
  }

  private static void p06() {
    under("Promise 6: force");
    says("A TEXT is THE LAW: which was.");
    SnuffOfElsewhere x = scene();
    due("the same", x.force(0), 0);
    due("the last", x.force(1), 0);
    due("back", x.force(0), 1);
    asBefore("there and back", x);
    says("BAD.");
    range("force", 0, 0, 1, BAD, 0);
    due("no second yet", of().force(1), BAD);
    SnuffOfElsewhere y = of();
    for (int t = 1; t < 6; t++) {
      due("not yet", y.force(t), BAD);
      due("text", text(y, "gone 1;gains 1;spills 1;"), t);
      due("now", y.force(t), t - 1);
    }
    due("no seventh", y.force(6), BAD);
  }

  private static void p07() {
    under("Promise 7: asks");
    says("-1000: none such.");
    range("asks", 0, 0, 2, -1000, 0, 0, 0);
    range("asks", 1, 0, 2, -1000, 0, 0, 0);
    range("asks", 2, 0, 7, -1000, 0, 0, 0);
    due("nobody at all", of().asks(0, 0, 0), -1000);
    due("one who is gone", scene().asks(0, 1, 2), 5);
  }

  private static void p08() {
    under("Promise 8: gentleman");
    says("(kindMore: 10 times KIND, and MORE; each: GRAINS of each SORT): the number.");
    for (int kindMore = 0; kindMore < 60; kindMore++) {
      SnuffOfElsewhere x = of(kindMore, kindMore % 10);
      due("kind", x.told(0, 9), kindMore / 10);
      due("more", x.told(0, 10), kindMore % 10);
      for (int sort = 0; sort < 8; sort++) due("grains", x.told(0, sort), kindMore % 10);
    }
    says("BAD; FULL.");
    range("gentleman", 0, 0, 59, BAD, 0, 0);
    range("gentleman", 1, 0, 9, BAD, 0, 0);
    SnuffOfElsewhere x = of();
    for (int p = 0; p < 6; p++) due("comes", x.gentleman(59, 9), p);
    due("FULL", x.gentleman(0, 0), FULL);
    due("BAD ahead of FULL", x.gentleman(-1, 0), BAD);
    due("BAD ahead of FULL", x.gentleman(60, 0), BAD);
    due("BAD ahead of FULL", x.gentleman(0, -1), BAD);
    due("BAD ahead of FULL", x.gentleman(0, 10), BAD);
  }

  private static void p09() {
    under("Promise 9: put");
    says("GRAINS of SORT what (0 .. 7), WIT (8) becomes v: what it was.");
    SnuffOfElsewhere x = scene();
    int[] was = new int[9];
    for (int what = 0; what < 9; what++) {
      was[what] = x.told(0, what);
      due("to the least", x.put(0, what, 0), was[what]);
      due("to the most", x.put(0, what, what == 8 ? 99 : 9), 0);
    }
    for (int what = 0; what < 9; what++) due("back", x.put(0, what, was[what]), what == 8 ? 99 : 9);
    asBefore("there and back", x);
    SnuffOfElsewhere gone = scene();
    due("of one who is gone", gone.put(1, 2, 9), 4);
    due("gone yet", gone.told(1, 12), 2);
    says("-5: none such; -7: what, v.");
    range("put", 0, 0, 2, -5, 0, 0, 0);
    range("put", 1, 0, 8, -7, 0, 0, 0);
    for (int what = 0; what < 8; what++) range("put", 2, 0, 9, -7, 0, what, 0);
    range("put", 2, 0, 99, -7, 0, 8, 0);
    refused(-5, "put", 3, 9, 100);
    refused(-5, "put", -1, -1, -1);
    due("none at all", of().put(0, 0, 0), -5);
  }

  private static void p10() {
    under("Promise 10: told");
    says("12 in which SORT one is (-1: HERE), 13 LEFT (0: HERE).");
    SnuffOfElsewhere x = of(51, 1, 0, 1);
    due("here", x.told(0, 12), -1);
    due("here", x.told(0, 13), 0);
    for (int sort = 0; sort < 8; sort++) {
      x.pinch(0, sort);
      due("in it", x.told(0, 12), sort);
      due("a minute", x.told(0, 13), 1);
      due("sand", x.told(0, 11), (2 << sort) - 1);
      due("of another one", x.told(1, 12), -1);
      x.minute();
      due("here", x.told(0, 12), -1);
      due("here", x.told(0, 13), 0);
    }
    says("-5: none such; -7: what.");
    range("told", 0, 0, 2, -5, 0, 0);
    range("told", 1, 0, 13, -7, 0, 0);
    refused(-5, "told", 3, 14);
    refused(-5, "told", -1, -1);
  }

  private static void p11() {
    under("Promise 11: pinches");
    says("Of one and a SORT, HERE or not: for how many minutes one would be GONE by a PINCH now (what 0), how much one GAINS (1), SPILLS (2).");
    SnuffOfElsewhere x = of(9, 0, 15, 9);
    x.pinch(1, 4);
    due("without grains", x.pinches(0, 7, 0), 10);
    due("without grains", x.pinches(0, 7, 1), 14);
    due("gone", x.pinches(1, 4, 0), 3);
    due("gone, sand now", x.pinches(1, 4, 1), 8);
    due("gone", x.pinches(1, 5, 1), 15);
    // what one would spill, though there is nothing to spill or nobody to have it
    law(x, "gone 1;gains 99;spills 9;");
    due("without grains", x.pinches(0, 7, 2), 9);
    x.put(0, 8, 99);
    due("above the bound of wit", x.pinches(0, 7, 1), 99);
    says("-5000: none such; -7000: what.");
    range("pinches", 0, 0, 2, -5000, 0, 0, 0);
    range("pinches", 1, 0, 7, -5000, 0, 0, 0);
    range("pinches", 2, 0, 2, -7000, 0, 0, 0);
    refused(-5000, "pinches", 3, 0, 3);
    refused(-5000, "pinches", 0, 8, 3);
    refused(-5000, "pinches", 0, -1, -1);
  }

  // ---- 12 .. 15 pinches, minutes

  private static void p12() {
    under("Promise 12: pinch");
    says("A PINCH, truly: for how many minutes one is GONE.");
    due("at least", of(50, 1).pinch(0, 0), 1);
    due("a footman's 7", of(40, 1).pinch(0, 7), 99);
    SnuffOfElsewhere lady = of(20, 1);
    law(lady, "gone 99;gains 0;spills 0;");
    due("at most", lady.pinch(0, 0), 109);
    due("left", lady.told(0, 13), 109);
    for (int i = 0; i < 109; i++) due("comes", lady.minute(), i == 108 ? 1 : 0);
    says("-5: none such; -6: no such SORT; STATE: one CAN'T.");
    range("pinch", 0, 0, 2, -5, 0, 0);
    range("pinch", 1, 0, 7, -6, 0, 0);
    refused(-5, "pinch", 3, 8);
    refused(-5, "pinch", -1, -1);
    refused(-6, "pinch", 1, 8);
    refused(-6, "pinch", 1, -1);
    refused(STATE, "pinch", 1, 2);
    refused(STATE, "pinch", 1, 0);
    due("no grains", of(0, 0).pinch(0, 0), STATE);
    due("nobody at all", of().pinch(0, 0), -5);
  }

  private static void p13() {
    under("Promise 13: give");
    says("One of one's GRAINS of a SORT is another one's, truly: how many of it that one has then.");
    SnuffOfElsewhere x = scene();
    due("there", x.give(0, 1, 7), 6);
    due("one less", x.told(0, 7), 4);
    due("back", x.give(1, 0, 7), 5);
    asBefore("there and back", x);
    SnuffOfElsewhere y = of(0, 1, 0, 0, 0, 8);
    due("the last one's last grain", y.give(0, 1, 0), 1);
    due("one has none now", y.told(0, 0), 0);
    due("to 9", y.give(0, 2, 7), 9);
    due("from another", y.give(2, 1, 7), 1);
    due("of another sort", y.told(1, 6), 0);
    due("no pinch", y.told(0, 11), 0);
    SnuffOfElsewhere z = of(0, 5, 0, 5);
    z.pinch(0, 0);
    z.pinch(1, 0);
    due("both are gone", z.give(0, 1, 0), 5);
    says("-5: no such two, one and the same; -6: no such SORT; STATE: one has none, that one has 9.");
    range("give", 0, 0, 2, -5, 0, 1, 0);
    range("give", 1, 0, 2, -5, 1, 0, 0);
    range("give", 2, 0, 7, -6, 0, 1, 0);
    for (int p = -1; p < 4; p++) refused(-5, "give", p, p, 8);
    refused(-5, "give", 0, 3, 8);
    refused(-5, "give", 3, 0, 8);
    SnuffOfElsewhere full = of(0, 0, 0, 9, 0, 1);
    due("-6 ahead of STATE", full.give(0, 1, 8), -6);
    due("-6 ahead of STATE", full.give(0, 1, -1), -6);
    due("none, and 9", full.give(0, 1, 3), STATE);
    due("one has none", full.give(0, 2, 3), STATE);
    due("that one has 9", full.give(2, 1, 3), STATE);
    int[] grains = {0, 9, 1};
    for (int p = 0; p < 3; p++) due("as before", full.told(p, 3), grains[p]);
  }

  private static void p14() {
    under("Promise 14: minute");
    says("A MINUTE, truly: who comes to be HERE (bits).");
    SnuffOfElsewhere x = of(51, 1, 51, 1, 51, 1, 51, 1, 51, 1, 51, 1);
    due("who is here doesn't come", x.minute(), 0);
    for (int p = 0; p < 6; p++) x.pinch(p, 0);
    due("all", x.minute(), 63);
    x.pinch(5, 1);
    due("the last", x.minute(), 32);
    says("STATE: MINUTE is 999.");
    x.clock(998);
    x.pinch(0, 1);
    due("to 999", x.minute(), 1);
    x.pinch(0, 2);
    due("not from 999", x.minute(), STATE);
    due("999 yet", x.count(1), 999);
    due("gone yet", x.told(0, 13), 1);
    x.clock(998);
    due("then", x.minute(), 1);
  }

  private static void p15() {
    under("Promise 15: room");
    says("Who is HERE (what 0; bits), in SORT what less 1 (1 .. 8; bits), the most that is LEFT of anybody (9; 0).");
    SnuffOfElsewhere x = of(59, 1, 58, 1, 57, 1, 56, 1, 55, 1, 54, 1);
    due("nothing is left", x.room(9), 0);
    for (int p = 5; p >= 0; p--) {
      x.pinch(p, p + 2);
      due("here", x.room(0), (1 << p) - 1);
      due("in it", x.room(p + 3), 1 << p);
      due("the most", x.room(9), 9 - p);
    }
    due("not in 0", x.room(1), 0);
    due("not in 1", x.room(2), 0);
    SnuffOfElsewhere y = of(51, 1, 59, 1, 51, 1);
    y.pinch(1, 7);
    y.pinch(0, 7);
    due("of another one", y.room(9), 9);
    due("two in 7", y.room(8), 3);
    minutes(y, 8);
    due("a minute", y.room(9), 1);
    y.minute();
    due("nothing is left", y.room(9), 0);
    due("nobody in 7", y.room(8), 0);
    due("all here", y.room(0), 7);
    says("BAD.");
    range("room", 0, 0, 9, BAD, 0);
  }

  // ---- 16, 17 evenings

  private static void noEvening(String name, int[] tail) {
    for (int v : new int[] {30, 37, 8, 9, 18, 19, 28, -2, -10, -11, 99, 1000, MOST, LEAST}) {
      for (int at = 0; at < 3; at++) {
        SnuffOfElsewhere x = scene();
        row(x, 0, 2, 0, -1, 27);
        x.cell(0, at, v);
        int[] a = new int[tail.length + 1];
        System.arraycopy(tail, 0, a, 1, tail.length);
        due(name + " of " + v, answer(x, name, a), BAD);
      }
    }
  }

  private static void p16() {
    under("Promise 16: evening");
    says("By an EVENING that a SHEET tells (none, too), in thought");
    SnuffOfElsewhere x = scene();
    row(x, 0, 2);
    int[] none = {0, 0, 0, -1};
    for (int what = 0; what < 4; what++) due("none, " + what, x.evening(0, what), none[what]);
    due("wit as it is", x.evening(0, 10), 20);
    due("sand as it is", x.evening(0, 21), 4);
    due("nobody, none", emptyRow(of()).evening(0, 2), 0);
    SnuffOfElsewhere most = of(0, 9);
    row(most, 0, 0, repeated(40, 7));
    due("40", most.evening(0, 0), 4);
    due("40, one behind the other", most.evening(0, 3), 1);
    due("40", most.evening(0, 2), 40);
    says("the most who aren't HERE at once (1; told ahead of each MINUTE), these of all MINUTES, together (2)");
    SnuffOfElsewhere y = of(51, 9, 51, 9, 52, 9);
    row(y, 0, 2, 0);
    due("gone for the minute", y.evening(0, 1), 1);
    due("gone for the minute", y.evening(0, 2), 1);
    row(y, 0, 2, 20, 10, -1);
    due("two at once", y.evening(0, 1), 2);
    due("together", y.evening(0, 2), 3);
    row(y, 0, 2, 20, -1, 10);
    due("one after another", y.evening(0, 1), 1);
    y.pinch(2, 0);
    row(y, 0, 2, -1, -1, -1);
    due("gone as it begins", y.evening(0, 1), 1);
    due("gone as it begins", y.evening(0, 2), 2);
    says("the first PINCH that CAN'T be taken (3; its place, from 0; -1: none)");
    due("nobody's are none", y.evening(0, 3), -1);
    row(y, 0, 2, 20, 21);
    due("the first", y.evening(0, 3), 0);
    row(y, 0, 2, -1, 0, -1, 0, 1, 20);
    due("all can", y.evening(0, 3), -1);
    row(y, 0, 2, -1, 0, 1, -1, 20, 21, 20);
    due("the last but one", y.evening(0, 3), 5);
    row(y, 0, 2, 7, 7, 0);
    y.put(0, 7, 1);
    due("no grains are left", y.evening(0, 3), 1);
    whats();
    says("BAD: SHEET; -11; BAD: it tells what is none (of such as there are); -7: what.");
    range("evening", 0, 0, 3, BAD, 0, 0);
    refused(BAD, "evening", 4, 99);
    refused(-11, "evening", 3, 99);
    refused(BAD, "evening", 2, 99);
    refused(-7, "evening", 0, 4);
    noEvening("evening", new int[] {99});
    SnuffOfElsewhere two = of(0, 1, 0, 1);
    row(two, 0, 2, 20);
    due("not yet", two.evening(0, 12), BAD);
    two.gentleman(0, 1);
    due("of such as there are", two.evening(0, 12), 0);
  }

  private static SnuffOfElsewhere emptyRow(SnuffOfElsewhere x) {
    row(x, 0, 2);
    return x;
  }

  private static void whats() {
    says("WIT of who is numbered what less 10 then (10 ..), SAND of who is numbered what less 20 (20 ..; bits)");
    for (int size = 0; size <= 6; size++) {
      SnuffOfElsewhere x = emptyRow(of());
      for (int p = 0; p < size; p++) {
        x.gentleman(10 * p + 1, 9);
        x.put(p, 8, 50 + p);
        x.pinch(p, p);
      }
      for (int p = 0; p < size; p++) {
        due("wit of " + p, x.evening(0, 10 + p), x.told(p, 8));
        due("sand of " + p, x.evening(0, 20 + p), 1 << p);
      }
      due("wit of none", x.evening(0, 10 + size), -7);
      due("sand of none", x.evening(0, 20 + size), -7);
    }
    range("evening", 1, 0, 3, -7, 0, 0);
    range("evening", 1, 10, 12, -7, 0, 0);
    range("evening", 1, 20, 22, -7, 0, 0);
  }

  private static void p17() {
    under("Promise 17: spend");
    says("It, truly: how many PINCHES are taken.");
    SnuffOfElsewhere x = scene();
    row(x, 0, 2);
    due("none", x.spend(0), 0);
    row(x, 0, 2, 1, 12, -1, 23);
    asBefore("none", x);
    SnuffOfElsewhere y = of(51, 9);
    row(y, 0, 1, repeated(40, 3));
    due("40, by 9 grains", y.spend(0), 9);
    due("40 minutes", y.count(1), 40);
    says("BAD, -11, BAD likewise; STATE: MINUTE would be above 999.");
    range("spend", 0, 0, 3, BAD, 0);
    refused(-11, "spend", 3);
    refused(BAD, "spend", 2);
    noEvening("spend", new int[0]);
    for (int n : new int[] {0, 1, 2, 40}) {
      SnuffOfElsewhere z = of(51, 9);
      row(z, 0, 0, repeated(n, -1));
      z.clock(999 - n);
      due("just 999", z.spend(0), 0);
      due("just 999", z.count(1), 999);
      if (n > 0) {
        z.clock(1000 - n);
        z.cell(0, 0, 0);
        due("above 999", z.spend(0), STATE);
        due("as before", z.count(1), 1000 - n);
        due("as before", z.told(0, 0), 9);
      }
    }
    SnuffOfElsewhere late = scene();
    late.clock(999);
    due("BAD ahead of STATE", late.spend(4), BAD);
    due("-11 ahead of STATE", late.spend(3), -11);
    due("BAD ahead of STATE", late.spend(2), BAD);
    due("STATE", late.spend(0), STATE);
  }

  // ---- 18 .. 22 what is best

  private static void p18() {
    under("Promise 18: plan");
    says("no more than minutes (0 .. 60), told as all is now (the first of a SORT as the next one)");
    SnuffOfElsewhere x = of(0, 0, 0, 9);
    x.put(0, 7, 9);
    // ten minutes and 14 of wit each
    for (int minutes = 0; minutes <= 60; minutes++) {
      due("by " + minutes, x.plan(0, minutes, 0), minutes / 10 * 14);
      due("by " + minutes, x.plan(0, minutes, 1), minutes / 10 * 10);
    }
    x.put(0, 7, 2);
    due("by two grains", x.plan(0, 60, 0), 28);
    due("by two grains", x.plan(0, 60, 1), 20);
    SnuffOfElsewhere old = of(39, 9);
    // sort 1 in a minute, 4 + 18 then: nine of these, though the second would gain 0
    due("nine of a sort", old.plan(0, 9, 0), 9 * 22);
    law(old, "gone grains;gains wit + 10 - grains;spills 0;");
    old.put(0, 8, 50);
    // each gains 120: nine of sort 1 in a minute each, twelve others in four each
    due("as all is now", old.plan(0, 60, 0), 21 * 120);
    due("as all is now", old.plan(0, 60, 1), 9 + 12 * 4);
    SnuffOfElsewhere gone = of(0, 9);
    gone.pinch(0, 7);
    due("one who is gone", gone.plan(0, 10, 0), 14);
    gone.put(0, 8, 99);
    due("above the bound of wit", gone.plan(0, 60, 0), 84);
    SnuffOfElsewhere own = of(0, 9, 0, 9, 0, 0, 0, 9);
    own.put(2, 3, 2);
    due("one's own grains", own.plan(2, 60, 0), 12);
    due("one's own grains", own.plan(2, 60, 1), 12);
    own.put(2, 3, 0);
    due("one's own grains", own.plan(2, 60, 0), 0);
    says("the most that they GAIN, together (none: 0; what 0), for how few minutes that is as much (1)");
    SnuffOfElsewhere y = of(0, 0, 40, 9);
    due("no grains", y.plan(0, 60, 0), 0);
    due("no grains", y.plan(0, 60, 1), 0);
    due("losses", y.plan(1, 60, 0), 0);
    due("losses", y.plan(1, 60, 1), 0);
    law(y, "gone 5;gains 0;spills 0;");
    y.put(0, 0, 9);
    due("no gain", y.plan(0, 60, 0), 0);
    due("no gain", y.plan(0, 60, 1), 0);
    law(y, "gone 1 + 98*(sort < 1);gains 99 - 98*(0 < sort);spills 0;");
    y.put(0, 1, 3);
    due("too long", y.plan(0, 60, 0), 3);
    due("the fewest", y.plan(0, 60, 1), 3);
    law(y, "gone 20 + sort;gains 10;spills 0;");
    due("two of three", y.plan(0, 59, 0), 20);
    due("the short ones", y.plan(0, 59, 1), 40);
    due("just three", y.plan(0, 60, 0), 30);
    due("just three", y.plan(0, 60, 1), 60);
    says("-5: none such; -7: minutes, what.");
    range("plan", 0, 0, 2, -5, 0, 0, 0);
    range("plan", 1, 0, 60, -7, 0, 0, 0);
    range("plan", 2, 0, 1, -7, 0, 0, 0);
    refused(-5, "plan", 3, 61, 2);
    refused(-5, "plan", -1, -1, -1);
  }

  private static void p19() {
    under("Promise 19: which");
    says("The SORT by a PINCH of which, that one CAN take now, WIT is most, of like ones the first (what 0; -1: none), that (1; as it is, then).");
    SnuffOfElsewhere x = of(0, 9);
    due("the most", x.which(0, 0), 7);
    due("that", x.which(0, 1), 14);
    for (int wit = 85; wit <= 99; wit++) {
      x.put(0, 8, wit);
      due("at the bound", x.which(0, 0), (99 - wit + 1) / 2);
      due("that", x.which(0, 1), 99);
    }
    x.put(0, 0, 0);
    due("of like ones", x.which(0, 0), 1);
    SnuffOfElsewhere y = of(40, 9);
    due("a loss at the bound", y.which(0, 0), 0);
    y.put(0, 8, 13);
    due("a loss", y.which(0, 1), 13);
    y.put(0, 0, 0);
    due("a loss", y.which(0, 0), 1);
    due("a loss", y.which(0, 1), 11);
    for (int sort = 1; sort < 7; sort++) y.put(0, sort, 0);
    due("only that", y.which(0, 0), 7);
    due("only that", y.which(0, 1), 0);
    y.put(0, 7, 0);
    due("none", y.which(0, 0), -1);
    due("as it is", y.which(0, 1), 13);
    y.put(0, 6, 1);
    y.pinch(0, 6);
    y.put(0, 8, 44);
    y.put(0, 1, 9);
    due("gone", y.which(0, 0), -1);
    due("as it is", y.which(0, 1), 44);
    says("-5: none such; -7: what.");
    range("which", 0, 0, 2, -5, 0, 0);
    range("which", 1, 0, 1, -7, 0, 0);
    refused(-5, "which", 3, 2);
    refused(-7, "which", 1, 2);
    refused(-7, "which", 1, -1);
  }

  private static void p20() {
    under("Promise 20: tour");
    says("How many SORTS aren't of one's SAND (what 0; -1: one has no GRAINS of one of these at least)");
    SnuffOfElsewhere x = of(51, 1);
    for (int sort = 7; sort >= 0; sort--) {
      due("so many", x.tour(0, 0), sort + 1);
      due("so many minutes", x.tour(0, 1), sort + 1);
      x.put(0, sort, 0);
      due("no grains", x.tour(0, 0), -1);
      due("no grains", x.tour(0, 1), -1);
      x.put(0, sort, 1);
      x.pinch(0, sort);
      due("none of these", x.tour(0, 0), sort);
      due("and the minute", x.tour(0, 1), sort + 1);
      x.minute();
    }
    due("none", x.tour(0, 0), 0);
    due("none", x.tour(0, 1), 0);
    SnuffOfElsewhere own = of(0, 0, 0, 0, 51, 1, 0, 0);
    due("one's own grains", own.tour(2, 0), 8);
    due("one's own grains", own.tour(2, 1), 8);
    for (int sort = 0; sort < 8; sort++) {
      own = of(0, 9, 0, 9, 51, 9, 0, 9);
      own.put(2, sort, 0);
      due("one's own grains", own.tour(2, 0), -1);
    }
    says("in how many MINUTES (0 .. 200), one taking a PINCH of the first of them each time one is HERE, then a MINUTE passing, one is HERE, and all are of one's SAND");
    SnuffOfElsewhere y = of(0, 1, 20, 9);
    law(y, "gone 25;gains 0;spills 9;");
    due("200", y.tour(0, 1), 200);
    due("280", y.tour(1, 1), -1);
    due("of 8", y.tour(1, 0), 8);
    law(y, "gone 25 + (sort = 3);gains 0;spills 0;");
    due("201", y.tour(0, 1), -1);
    law(y, "gone 25 - (sort = 3);gains 0;spills 0;");
    due("199", y.tour(0, 1), 199);
    // 0 by the minute: the first of them first, by sorts
    law(y, "gone 1 + (minute = sort);gains 0;spills 0;");
    due("the first by 2, then by 1", y.tour(0, 1), 9);
    SnuffOfElsewhere far = of(0, 9, 0, 9);
    law(far, "gone 60;gains 0;spills 0;");
    for (int sort = 0; sort < 8; sort++) {
      if (sort == 7) due("by the last one", far.tour(0, 1), 60);
      far.pinch(0, sort);
      if (sort < 7) minutes(far, 60);
    }
    due("till one is here", far.tour(0, 1), 60);
    far.minute();
    due("till one is here", far.tour(0, 1), 59);
    due("of the other one", far.tour(1, 1), -1);
    says("(1; -1: as by what 0, one CAN'T then, not by 200). -5: none such; -7: what.");
    range("tour", 0, 0, 2, -5, 0, 0);
    range("tour", 1, 0, 1, -7, 0, 0);
    refused(-5, "tour", 3, 2);
    refused(-5, "tour", -1, -1);
    due("-7 ahead of -1", of(0, 0).tour(0, 2), -7);
    due("-7 ahead of -1", of(0, 0).tour(0, -1), -7);
  }

  private static void p21() {
    under("Promise 21: share");
    says("Who should have one more of the GRAINS of a SORT (fewer than 9 now)");
    SnuffOfElsewhere x = of(0, 9, 10, 8, 0, 9);
    due("the only one", x.share(3, 0), 1);
    due("all take one", x.share(3, 1), 18);
    x.put(1, 3, 9);
    due("nobody", x.share(3, 0), -1);
    due("as all is", x.share(3, 1), 0);
    x.put(0, 8, 99);
    x.put(2, 8, 99);
    due("as all is", x.share(3, 1), 198);
    x.put(2, 3, 8);
    due("the last", x.share(3, 0), 2);
    says("so that, did then all who CAN, by numbers, take a PINCH of it, WIT of all, together, were most, of like ones the first (what 0; -1: nobody), that (1; as all is, then).");
    SnuffOfElsewhere y = of(0, 0, 0, 0, 0, 0, 15, 0, 0, 0, 15, 0);
    due("the first of like ones", y.share(2, 0), 3);
    due("that", y.share(2, 1), 9);
    y.put(5, 8, 99);
    y.put(0, 8, 1);
    due("wit of all", y.share(2, 1), 109);
    y.put(3, 8, 99);
    due("at the bound", y.share(2, 0), 0);
    due("at the bound", y.share(2, 1), 203);
    // one who is gone may have it, too, though it is for nothing
    SnuffOfElsewhere gone = of(0, 0, 40, 1);
    gone.put(0, 0, 1);
    gone.pinch(0, 0);
    gone.put(1, 8, 50);
    due("a loss", gone.share(3, 1), 44);
    gone.put(1, 3, 0);
    due("to one who is gone", gone.share(3, 0), 0);
    due("nobody takes one", gone.share(3, 1), 50);
    due("nobody at all", of().share(0, 0), -1);
    due("nobody at all", of().share(7, 1), 0);
    due("in thought", x.told(1, 11), 0);
    due("in thought", x.told(2, 3), 8);
    says("BAD.");
    range("share", 0, 0, 7, BAD, 0, 0);
    range("share", 1, 0, 1, BAD, 0, 0);
  }

  private static void p22() {
    under("Promise 22: box");
    says("All GRAINS of one, of those of all: part 0 above, 1 below the line, in lowest terms.");
    SnuffOfElsewhere x = of(0, 9, 0, 9, 0, 9, 0, 9, 0, 9, 0, 9);
    due("72 of 432", x.box(5, 0), 1);
    due("72 of 432", x.box(5, 1), 6);
    x.put(0, 7, 8);
    due("71 of 431", x.box(0, 0), 71);
    due("71 of 431", x.box(0, 1), 431);
    SnuffOfElsewhere y = of(0, 0, 0, 0);
    y.put(1, 7, 1);
    due("none of one", y.box(0, 0), 0);
    due("none of one", y.box(0, 1), 1);
    due("one of one", y.box(1, 0), 1);
    due("one of one", y.box(1, 1), 1);
    y.put(0, 0, 1);
    due("one of two", y.box(0, 1), 2);
    says("NO: none such, there are none.");
    y.put(0, 0, 0);
    y.put(1, 7, 0);
    for (int part = 0; part < 2; part++) due("there are none", y.box(0, part), NO);
    due("nobody at all", of().box(0, 0), NO);
    range("box", 0, 0, 2, NO, 0, 0);
    range("box", 1, 0, 1, NO, 0, 0);
  }

  // ---- 23 .. 28 told evenings

  // All that judge() refuses, by a call whose other numbers, behind these, are wrong as well.
  private static void refusesJudging(String name, boolean whose, int... tail) {
    refusesTale(name, BAD, 9, 4, 9, tail);
    refusesTale(name, BAD, 9, -1, 9, tail);
    refusesTale(name, BAD, 0, 4, 0, tail);
    refusesTale(name, BAD, 0, LEAST, 0, tail);
    refusesTale(name, BAD, 4, 3, 9, tail);
    refusesTale(name, BAD, -1, 3, 9, tail);
    refusesTale(name, BAD, MOST, 0, 0, tail);
    refusesTale(name, -11, 3, 3, 9, tail);
    refusesTale(name, -11, 3, 0, 9, tail);
    refusesTale(name, BAD, 2, 3, 9, tail);
    refusesTale(name, BAD, 2, 0, 0, tail);
    refusesTale(name, -11, 0, 3, 9, tail);
    longer(name, tail);
    if (whose) return;
    for (int p : new int[] {3, -1, MOST, LEAST}) refusesTale(name, -5, 0, 1, p, tail);
  }

  private static void refusesTale(String name, long refusal, int s, int told, int p, int... tail) {
    int[] a = {s, told, p, tail.length > 0 ? tail[0] : 0, tail.length > 1 ? tail[1] : 0};
    refused(refusal, name, a);
  }

  private static void longer(String name, int... tail) {
    int[] a = {0, 1, 9, tail.length > 0 ? tail[0] : 0, tail.length > 1 ? tail[1] : 0};
    SnuffOfElsewhere x = scene();
    row(x, 1, 0, 0, 0, 0, 0, 0);
    due(name + " by one more", answer(x, name, a), BAD);
    row(x, 0, 2);
    row(x, 1, 0, 0);
    due(name + " by one", answer(x, name, a), BAD);
    row(x, 1, 0);
    a[2] = 0;
    if (tail.length == 0 && answer(x, name, a) == BAD) fails(name + " refuses as many as s, none");
    row(x, 0, 2, 0);
    if (tail.length == 0 && answer(x, name, a) == BAD) fails(name + " refuses fewer than s, none");
  }

  // 0 a gentleman of wit 20, an evening of sheet 0, what is told in sheet 1.
  private static SnuffOfElsewhere tale(int sort, int... told) {
    SnuffOfElsewhere x = of(3, 3, 13, 3);
    x.put(0, 8, 20);
    // 0: 24, and gone for 5; 1: 5, and gone for 2; nobody; left out; 1: 20; 0: 38
    row(x, 0, 2, 2, 11, -1, 3, 16, 7);
    row(x, 1, sort, told);
    return x;
  }

  private static void p23() {
    under("Promise 23: judge");
    says("SHEET s tells an EVENING, SHEET told WIT of one behind its first, second, .. MINUTE: the first (from 0) that is otherwise; -1: none.");
    for (int sort = 0; sort < 3; sort++) {
      due("as it is", tale(sort, 24, 24, 24, 24, 24, 38).judge(0, 1, 0), -1);
      due("the last", tale(sort, 24, 24, 24, 24, 24, 37).judge(0, 1, 0), 5);
      due("the first", tale(sort, 25, 24, 24, 24, 24, 38).judge(0, 1, 0), 0);
      due("the first of two", tale(sort, 24, 24, 25, 24, 24, 37).judge(0, 1, 0), 2);
      due("fewer", tale(sort, 24, 24).judge(0, 1, 0), -1);
      due("one", tale(sort, 23).judge(0, 1, 0), 0);
      due("none", tale(sort).judge(0, 1, 0), -1);
      due("of another one", tale(sort, 0, 5, 5, 5, 20, 20).judge(0, 1, 1), -1);
    }
    due("an int of the same byte", tale(2, 24 + 256).judge(0, 1, 0), 0);
    due("a short of the same byte", tale(1, 24 + 256).judge(0, 1, 0), 0);
    due("a byte", tale(0, 24 + 256).judge(0, 1, 0), -1);
    SnuffOfElsewhere none = of(0, 0);
    row(none, 0, 2);
    row(none, 1, 2);
    due("none of none", none.judge(0, 1, 0), -1);
    due("one and the same, none", none.judge(0, 0, 0), -1);
    row(none, 0, 2, -1);
    due("one and the same", none.judge(0, 0, 0), 0);
    says("BAD: SHEET told; BAD: SHEET s; -11: s is missing; BAD: it tells no EVENING; -11: told is missing; BAD: it tells more than s; -5: none such.");
    range("judge", 0, 0, 3, BAD, 0, 1, 0);
    range("judge", 1, 0, 3, BAD, 0, 1, 0);
    range("judge", 2, 0, 2, -5, 0, 1, 0);
    noEvening("judge", new int[] {3, 9});
    refusesJudging("judge", false);
  }

  private static void p24() {
    under("Promise 24: kinds");
    says("KINDS (sort 0; bits 0 .. 5), MORE (1; bits 0 .. 9) by which, were they one's, that would be -1.");
    due("nothing told: all", tale(0).kinds(0, 1, 0, 0), 63);
    due("nothing told: all", tale(0).kinds(0, 1, 0, 1), 1023);
    due("none", tale(0, 99).kinds(0, 1, 0, 0), 0);
    due("none", tale(0, 99).kinds(0, 1, 0, 1), 0);
    due("that, that and that", tale(0, 24).kinds(0, 1, 0, 0), 0b100101);
    due("a wit", tale(0, 27).kinds(0, 1, 0, 0), 0b000010);
    due("an old one", tale(0, 34).kinds(0, 1, 0, 0), 0b001000);
    due("a footman", tale(0, 16).kinds(0, 1, 0, 0), 0b010000);
    SnuffOfElsewhere x = of(10, 9);
    row(x, 0, 2, 0);
    for (int more = 0; more < 10; more++) {
      row(x, 1, 1, more);
      due("more " + more, x.kinds(0, 1, 0, 1), 1 << more);
      due("not truly", x.told(0, 10), 0);
    }
    says("All that judge() refuses, likewise; -7: sort.");
    range("kinds", 0, 0, 3, BAD, 0, 1, 0, 0);
    range("kinds", 1, 0, 3, BAD, 0, 1, 0, 0);
    range("kinds", 2, 0, 2, -5, 0, 1, 0, 0);
    range("kinds", 3, 0, 1, -7, 0, 1, 0, 0);
    noEvening("kinds", new int[] {3, 9, 9});
    refusesJudging("kinds", false, 2);
  }

  private static void p25() {
    under("Promise 25: states");
    says("GRAINS of SORT sort (0 .. 7; 0 .. 9), WIT (8; 0 .. 99) by which, were it so at first, that would be -1: how many (what 0), the least (1; -1: none).");
    for (int sort = 0; sort < 8; sort++) {
      due("nothing told: all", tale(0).states(0, 1, 0, sort, 0), 10);
      due("nothing told: all", tale(0).states(0, 1, 0, sort, 1), 0);
      due("none", tale(0, 99).states(0, 1, 0, sort, 0), 0);
      due("none", tale(0, 99).states(0, 1, 0, sort, 1), -1);
    }
    due("nothing told: all", tale(0).states(0, 1, 0, 8, 0), 100);
    due("nothing told: all", tale(0).states(0, 1, 0, 8, 1), 0);
    due("none", tale(0, 3).states(0, 1, 0, 8, 0), 0);
    due("none", tale(0, 3).states(0, 1, 0, 8, 1), -1);
    due("the least of all", tale(0, 4).states(0, 1, 0, 8, 1), 0);
    due("at the bound", tale(0, 99).states(0, 1, 0, 8, 0), 5);
    due("at the bound", tale(0, 99).states(0, 1, 0, 8, 1), 95);
    due("one grain", tale(0, 24).states(0, 1, 0, 2, 0), 9);
    due("one grain", tale(0, 24).states(0, 1, 0, 2, 1), 1);
    due("no grains", tale(0, 20).states(0, 1, 0, 2, 0), 1);
    due("no grains", tale(0, 20).states(0, 1, 0, 2, 1), 0);
    SnuffOfElsewhere x = of(51, 0);
    row(x, 0, 2, repeated(9, 7));
    row(x, 1, 2, 14, 28, 42, 56, 70, 84, 98, 99, 99);
    due("eight or nine", x.states(0, 1, 0, 7, 0), 2);
    due("eight or nine", x.states(0, 1, 0, 7, 1), 8);
    row(x, 1, 2, repeated(9, 99));
    due("all of 99", x.states(0, 1, 0, 8, 1), 99);
    says("All that judge() refuses, likewise; -7: sort, what.");
    range("states", 0, 0, 3, BAD, 0, 1, 0, 0, 0);
    range("states", 1, 0, 3, BAD, 0, 1, 0, 0, 0);
    range("states", 2, 0, 2, -5, 0, 1, 0, 0, 0);
    range("states", 3, 0, 8, -7, 0, 1, 0, 0, 0);
    range("states", 4, 0, 1, -7, 0, 1, 0, 0, 0);
    noEvening("states", new int[] {3, 9, 9, 9});
    refusesJudging("states", false, 9, 2);
  }

  private static void p26() {
    under("Promise 26: whose");
    says("GENTLEMEN (bits) of whom that is -1.");
    SnuffOfElsewhere x = of(3, 3, 13, 3, 0, 0, 0, 0, 0, 0, 0, 0);
    row(x, 0, 2, -1);
    row(x, 1, 2);
    due("nothing told: all", x.whose(0, 1), 63);
    row(x, 1, 2, 0);
    due("all", x.whose(0, 1), 63);
    for (int p = 0; p < 6; p++) x.put(p, 8, p);
    for (int p = 0; p < 6; p++) {
      row(x, 1, 2, p);
      due("one", x.whose(0, 1), 1 << p);
    }
    row(x, 1, 2, 6);
    due("none", x.whose(0, 1), 0);
    SnuffOfElsewhere y = of();
    row(y, 0, 2, -1);
    row(y, 1, 2, 0);
    due("nobody at all", y.whose(0, 1), 0);
    says("All that judge() refuses, likewise, but -5.");
    range("whose", 0, 0, 3, BAD, 0, 1);
    range("whose", 1, 0, 3, BAD, 0, 1);
    noEvening("whose", new int[] {3});
    refusesJudging("whose", true);
  }

  private static void p27() {
    under("Promise 27: laws");
    says("TEXTS (bits), were they THE LAW, by which that would be -1.");
    SnuffOfElsewhere x = of(0, 9);
    row(x, 0, 2, 7);
    row(x, 1, 2, 14);
    due("the only one", x.laws(0, 1, 0), 1);
    for (int t = 1; t < 6; t++) due("text", text(x, "gone 1;gains " + t + ";spills 0;"), t);
    due("the first", x.laws(0, 1, 0), 1);
    for (int t = 1; t < 6; t++) {
      row(x, 1, 2, t);
      due("each", x.laws(0, 1, 0), 1 << t);
      x.force(t);
      due("each, whichever is the law", x.laws(0, 1, 0), 1 << t);
      due("not truly", x.count(4), t);
    }
    row(x, 1, 2, 6);
    due("none", x.laws(0, 1, 0), 0);
    row(x, 1, 2);
    due("nothing told: all", x.laws(0, 1, 0), 63);
    says("All that judge() refuses, likewise.");
    range("laws", 0, 0, 3, BAD, 0, 1, 0);
    range("laws", 1, 0, 3, BAD, 0, 1, 0);
    range("laws", 2, 0, 2, -5, 0, 1, 0);
    noEvening("laws", new int[] {3, 9});
    refusesJudging("laws", false);
  }

  private static void p28() {
    under("Promise 28: film");
    says("SHEET told truly becomes WIT of one behind each MINUTE of the EVENING of SHEET s (bytes): how many.");
    SnuffOfElsewhere x = tale(2, 1, 2, 3, 4, 5, 6, 7, 8, 9);
    due("over a longer row", x.film(0, 1, 0), 6);
    numbers("of 0", x, 1, 0, 24, 24, 24, 24, 24, 38);
    due("over a row", x.film(0, 1, 1), 6);
    numbers("of 1", x, 1, 0, 0, 5, 5, 5, 20, 20);
    due("the evening stays", x.evening(0, 0), 4);
    due("the set stays", x.told(0, 8), 20);
    SnuffOfElsewhere y = tale(0);
    due("over a missing one", y.film(0, 3, 0), 6);
    due("bytes", y.cell(3, 5, 38 + 256), 1);
    due("bytes", y.judge(0, 3, 0), -1);
    row(y, 1, 2);
    due("none", y.film(1, 3, 0), 0);
    due("a row of none", y.cell(3, 0, 0), -12);
    row(y, 1, 0, repeated(40, -1));
    due("40", y.film(1, 3, 0), 40);
    due("40", y.judge(1, 3, 0), -1);
    due("40", y.cell(3, 39, 19), 1);
    due("40", y.judge(1, 3, 0), 39);
    y.put(0, 8, 99);
    row(y, 1, 0, -1);
    due("99", y.film(1, 2, 0), 1);
    due("99", y.judge(1, 2, 0), -1);
    says("BAD: SHEET told, one and the same; BAD: SHEET s; -11: s is missing; BAD: no EVENING; -5: none such.");
    range("film", 0, 0, 3, BAD, 0, 1, 0);
    range("film", 1, 1, 3, BAD, 0, 1, 0);
    range("film", 2, 0, 2, -5, 0, 1, 0);
    refused(BAD, "film", 0, -1, 0);
    refused(BAD, "film", 9, 4, 9);
    for (int s = -1; s < 5; s++) refused(BAD, "film", s, s, 9);
    refused(BAD, "film", 4, 3, 9);
    refused(-11, "film", 3, 1, 9);
    refused(BAD, "film", 2, 1, 9);
    refused(-5, "film", 0, 1, 3);
    noEvening("film", new int[] {3, 9});
  }

  // ---- 29 .. 32 evenings by lots

  private static void p29() {
    under("Promise 29: drawn");
    says("EVENINGS by a SEED of n MINUTES (0 .. 60): WIT of all then, together (what 0), how many PINCHES are taken (1).");
    SnuffOfElsewhere x = of(0, 9, 0, 9, 0, 9, 0, 9, 0, 9, 0, 9);
    for (int p = 0; p < 6; p++) x.put(p, 8, 99);
    due("no minutes", x.drawn(99999, 0, 0), 594);
    due("no minutes", x.drawn(99999, 0, 1), 0);
    due("60 minutes, at the bound", x.drawn(0, 60, 0), 594);
    due("nobody", of().drawn(0, 60, 0), 0);
    due("nobody", of().drawn(0, 60, 1), 0);
    says("BAD.");
    range("drawn", 0, 0, 99999, BAD, 0, 10, 0);
    range("drawn", 1, 0, 60, BAD, 0, 10, 0);
    range("drawn", 2, 0, 1, BAD, 0, 10, 0);
  }

  private static void p30() {
    under("Promise 30: odds");
    says("By how many of so many (1 .. 40) seeds, SEED and each 1 more (they may pass 99999), of 20 MINUTES, WIT of all, together, is least (0 .. 999) or more: part 0 above, 1 below the line, in lowest terms.");
    int[] two = {1, 9, 12, 9};
    for (int seeds : new int[] {1, 2, 3, 39, 40}) {
      int[] wits = new int[seeds];
      for (int i = 0; i < seeds; i++) wits[i] = spent(of(two), 99990 + i, 20)[0];
      for (int least : new int[] {0, wits[0], wits[0] + 1, wits[seeds - 1], 999}) {
        int above = 0;
        for (int wit : wits) if (wit >= least) above++;
        int divisor = java.math.BigInteger.valueOf(above).gcd(java.math.BigInteger.valueOf(seeds)).intValue();
        due("above by " + seeds + ", " + least, of(two).odds(99990, seeds, least, 0), above / divisor);
        due("below by " + seeds + ", " + least, of(two).odds(99990, seeds, least, 1), seeds / divisor);
      }
    }
    SnuffOfElsewhere late = of(two);
    late.clock(999);
    due("past 999", late.odds(7, 1, late.drawn(7, 20, 0), 0), 1);
    due("past 999", late.odds(7, 1, late.drawn(7, 20, 0) + 1, 0), 0);
    due("nobody", of().odds(0, 40, 0, 0), 1);
    due("nobody", of().odds(0, 40, 0, 1), 1);
    due("nobody", of().odds(0, 40, 1, 0), 0);
    due("nobody", of().odds(0, 40, 1, 1), 1);
    says("NO: none such.");
    range("odds", 0, 0, 99999, NO, 0, 1, 0, 0);
    range("odds", 1, 1, 40, NO, 0, 1, 0, 0);
    range("odds", 2, 0, 999, NO, 0, 1, 0, 0);
    range("odds", 3, 0, 1, NO, 0, 1, 0, 0);
  }

  private static void p31() {
    under("Promise 31: image");
    says("AN IMAGE is kept: how many GENTLEMEN.");
    SnuffOfElsewhere x = of();
    for (int size = 0; size <= 6; size++) {
      due("image of " + size, x.image(), size);
      due("back to " + size, x.back(), size);
      x.gentleman(size, 1);
    }
    due("six", x.image(), 6);
    SnuffOfElsewhere y = of(0, 1, 0, 2);
    y.image();
    y.put(0, 0, 7);
    due("another one", y.image(), 2);
    y.put(0, 0, 8);
    y.back();
    due("the last one is kept", y.told(0, 0), 7);
  }

  private static void p32() {
    under("Promise 32: back");
    says("All that it keeps is as in THE IMAGE, GENTLEMEN that came since are none: how many there are.");
    SnuffOfElsewhere x = of(11, 1);
    x.image();
    for (int p = 1; p < 6; p++) x.gentleman(20 + p, 9);
    x.pinch(5, 7);
    due("one", x.back(), 1);
    due("one", x.count(0), 1);
    due("here", x.room(0), 1);
    due("nobody in 7", x.room(8), 0);
    due("none such", x.told(1, 0), -5);
    due("at once again", x.back(), 1);
    for (int p = 1; p < 6; p++) due("comes", x.gentleman(30 + p, 2), p);
    due("fresh", x.told(5, 12), -1);
    due("fresh", x.told(5, 13), 0);
    due("fresh", x.told(5, 11), 0);
    due("fresh", x.told(5, 8), 0);
    due("fresh", x.told(5, 7), 2);
    due("fresh", x.told(5, 9), 3);
    due("fresh", x.told(5, 10), 5);
    due("back to one", x.back(), 1);
    // what it doesn't keep
    row(x, 2, 2, 0);
    feed(x, "gone");
    due("one", x.back(), 1);
    due("sheets stay", x.evening(2, 0), 1);
    due("the tape stays", x.count(5), 4);
    says("STATE: there is none.");
    SnuffOfElsewhere y = of(0, 1);
    due("none", y.back(), STATE);
    due("as before", y.count(0), 1);
    y.image();
    due("one", y.back(), 1);
  }

  // ---- 33 .. 37 the host

  private static void p33() {
    under("Promise 33: sheet");
    says("A SHEET becomes a row of n of a sort, all 0, or missing (sort -1: n does not matter): 1.");
    SnuffOfElsewhere x = of(0, 9);
    for (int s = 0; s < 2; s++) {
      for (int sort = 0; sort < 3; sort++) {
        row(x, s, sort, 7, 7, 7);
        due("anew", x.sheet(s, sort, 3), 1);
        numbers("all 0", x, s, sort, 0, 0, 0);
      }
    }
    for (int n : new int[] {0, 1, -1, 41, MOST, LEAST}) {
      row(x, 0, 2, 1);
      due("missing", x.sheet(0, -1, n), 1);
      due("missing", x.cell(0, 0, 0), -11);
      due("missing again", x.sheet(0, -1, n), 1);
    }
    due("of the sort", x.sheet(0, 1, 2), 1);
    due("of the sort", x.setBy(0, 1, 0, 1), 1);
    due("not of another", x.setBy(0, 2, 0, 1), -13);
    says("BAD: SHEET, sort, n above 40; -14.");
    range("sheet", 0, 0, 3, BAD, 0, 0, 1);
    range("sheet", 1, -1, 2, BAD, 0, 0, 1);
    for (int sort = 0; sort < 3; sort++) {
      refused(BAD, "sheet", 0, sort, 41);
      refused(BAD, "sheet", 0, sort, MOST);
      refused(-14, "sheet", 0, sort, -1);
      refused(-14, "sheet", 0, sort, LEAST);
      due("40", of().sheet(0, sort, 40), 1);
      due("0", of().sheet(0, sort, 0), 1);
    }
    refused(BAD, "sheet", 4, 0, -1);
    refused(BAD, "sheet", -1, 0, -1);
    refused(BAD, "sheet", 4, -1, 0);
    refused(BAD, "sheet", 0, 3, -1);
    refused(BAD, "sheet", 0, -2, -1);
  }

  // A number of a sort's sheet is an evening of 0 by what is told, or of nobody: by the sort's bits.
  private static void bits(int sort, int v, int is) {
    SnuffOfElsewhere x = of(51, 9);
    x.put(0, 8, 42);
    row(x, 0, 2, -1);
    row(x, 1, sort, v);
    due(v + " of sort " + sort, x.judge(0, 1, 0), is == 42 ? -1 : 0);
    row(x, 1, sort, v);
    due(v + " of sort " + sort, x.evening(1, 0), is == -1 ? 0 : is >= 0 && is < 8 ? 1 : BAD);
  }

  private static void p34() {
    under("Promise 34: cell");
    says("Number i of a SHEET becomes v (of bytes, shorts its lowest 8, 16 bits): 1.");
    for (int v : new int[] {-1, 0, 7, 8, 42, 127, 128, 255, 256, 263, 298, 32767, 32768, 65535, 65536, 65543, 65578, -256, -214, -65494, MOST, LEAST}) {
      bits(0, v, (byte) v);
      bits(1, v, (short) v);
      bits(2, v, v);
    }
    SnuffOfElsewhere x = of(0, 9);
    row(x, 0, 0, 1, 2, 3);
    due("the first", x.cell(0, 0, 9), 1);
    due("the last", x.cell(0, 2, 8), 1);
    numbers("by places", x, 0, 0, 9, 2, 8);
    says("BAD: SHEET; -11; -12.");
    range("cell", 0, 0, 3, BAD, 0, 0, 5);
    range("cell", 1, 0, 3, -12, 0, 0, 5);
    refused(BAD, "cell", 4, 99, 0);
    refused(BAD, "cell", -1, -1, 0);
    refused(-11, "cell", 3, 0, 0);
    refused(-11, "cell", 3, 99, 0);
    refused(-11, "cell", 3, -1, 0);
  }

  private static void p35() {
    under("Promise 35: copy");
    says("n numbers of a SHEET, from i on, come to another one's (or its own) place j (as they were): n.");
    SnuffOfElsewhere x = of(0, 9);
    row(x, 0, 1, 1, 2, 3, 4, 5);
    row(x, 1, 1, 6, 7, 8);
    due("the last two to the first", x.copy(0, 3, 1, 0, 2), 2);
    numbers("another one's", x, 1, 1, 4, 5, 8);
    numbers("as they were", x, 0, 1, 1, 2, 3, 4, 5);
    due("one to the last", x.copy(0, 0, 1, 2, 1), 1);
    numbers("another one's", x, 1, 1, 4, 5, 1);
    due("all", x.copy(1, 0, 0, 2, 3), 3);
    numbers("all", x, 0, 1, 1, 2, 4, 5, 1);
    SnuffOfElsewhere up = of(0, 9);
    row(up, 0, 0, 1, 2, 3, 4, 5);
    due("up its own", up.copy(0, 0, 0, 1, 4), 4);
    numbers("up its own", up, 0, 0, 1, 1, 2, 3, 4);
    due("down its own", up.copy(0, 2, 0, 0, 3), 3);
    numbers("down its own", up, 0, 0, 2, 3, 4, 3, 4);
    due("to the same place", up.copy(0, 0, 0, 0, 5), 5);
    numbers("to the same place", up, 0, 0, 2, 3, 4, 3, 4);
    due("none", up.copy(0, 0, 0, 0, 0), 0);
    due("none, at the end", up.copy(0, 5, 0, 5, 0), 0);
    up.sheet(1, 0, 0);
    due("none of none", up.copy(1, 0, 1, 0, 0), 0);
    due("none to none", up.copy(0, 0, 1, 0, 0), 0);
    due("one of none", up.copy(1, 0, 0, 0, 1), -12);
    due("one to none", up.copy(0, 0, 1, 0, 1), -12);
    up.sheet(0, 0, 40);
    up.sheet(1, 0, 40);
    due("40", up.copy(0, 0, 1, 0, 40), 40);
    due("41", up.copy(0, 0, 1, 0, 41), -12);
    says("BAD: SHEETS; -11; -13: unlike sorts; -12 (n below 0, too).");
    range("copy", 0, 0, 3, BAD, 0, 0, 0, 0, 1);
    range("copy", 2, 0, 3, BAD, 0, 0, 0, 0, 1);
    range("copy", 1, 0, 3, -12, 0, 0, 0, 0, 1);
    range("copy", 3, 0, 3, -12, 0, 0, 0, 0, 1);
    range("copy", 4, 0, 4, -12, 0, 0, 0, 0, 0);
    range("copy", 4, 0, 2, -12, 0, 2, 0, 1, 0);
    range("copy", 4, 0, 2, -12, 0, 1, 0, 2, 0);
    range("copy", 1, 0, 4, -12, 0, 0, 0, 0, 0);
    range("copy", 3, 0, 4, -12, 0, 0, 0, 0, 0);
    refused(-12, "copy", 0, MOST, 0, 0, MOST);
    refused(-12, "copy", 0, 0, 0, MOST, MOST);
    refused(-12, "copy", 0, LEAST, 0, LEAST, LEAST);
    refused(BAD, "copy", 4, 0, 3, 0, 1);
    refused(BAD, "copy", 3, 0, 4, 0, 1);
    refused(-11, "copy", 3, 9, 0, 9, 9);
    refused(-11, "copy", 0, 9, 3, 9, 9);
    refused(-11, "copy", 3, 0, 3, 0, 0);
    refused(-13, "copy", 0, 9, 2, 9, 9);
    refused(-13, "copy", 1, 0, 0, 0, -1);
    refused(-13, "copy", 1, 0, 2, 0, 0);
  }

  private static void p36() {
    under("Promise 36: setBy");
    says("GENTLEMEN by a SHEET of a sort: from a place on, two by two (as of gentleman()), n of them (0 .. 6): how many came (others are left out).");
    for (int sort = 0; sort < 3; sort++) {
      SnuffOfElsewhere x = of();
      row(x, 0, sort, 0, 0, 59, 9, 60, 0, 0, 10, -1, 0, 0, -1, 17, 3);
      due("none of 0", x.setBy(0, sort, 0, 0), 0);
      due("nobody", x.count(0), 0);
      due("two of six", x.setBy(0, sort, 0, 6), 2);
      due("the first", x.told(0, 9), 0);
      due("the second", x.told(1, 9), 5);
      due("the second", x.told(1, 10), 9);
      due("the second", x.told(1, 7), 9);
      due("to the end", x.setBy(0, sort, 12, 1), 1);
      due("the third", x.told(2, 10), 7);
      due("from an odd place", x.setBy(0, sort, 11, 1), 0);
      due("from an odd place", x.setBy(0, sort, 1, 1), 0);
      due("from an odd place", x.setBy(0, sort, 3, 1), 0);
      due("from an odd place", x.setBy(0, sort, 7, 1), 0);
      due("three", x.count(0), 3);
    }
    SnuffOfElsewhere y = of(0, 1, 0, 1, 0, 1, 0, 1);
    row(y, 0, 2, 11, 1, 22, 2, 33, 3, 44, 4);
    due("room for two", y.setBy(0, 2, 0, 4), 2);
    due("the last", y.told(5, 10), 2);
    due("room for none", y.setBy(0, 2, 0, 4), 0);
    due("full, and outside", y.setBy(0, 2, 0, 5), -12);
    says("BAD: SHEET, sort, n; -11; -13; -12: what stood ahead came.");
    range("setBy", 0, 0, 3, BAD, 0, 2, 0, 1);
    range("setBy", 1, 0, 2, BAD, 0, 2, 0, 1);
    range("setBy", 2, 0, 2, -12, 0, 2, 0, 1);
    range("setBy", 3, 0, 6, BAD, 0, 2, 0, 1);
    refused(BAD, "setBy", 4, 2, 0, 1);
    refused(BAD, "setBy", 3, 3, 0, 1);
    refused(BAD, "setBy", 3, 2, 0, 7);
    refused(-11, "setBy", 3, 2, -1, 1);
    refused(-13, "setBy", 2, 2, -1, 1);
    refused(-13, "setBy", 0, 0, 99, 6);
    refused(-12, "setBy", 0, 2, -1, 1);
    refused(-12, "setBy", 0, 2, LEAST, 6);
    refused(-12, "setBy", 0, 2, MOST, 6);
    refused(-12, "setBy", 0, 2, MOST - 1, 6);
    for (int n = 1; n <= 6; n++) {
      SnuffOfElsewhere z = of();
      row(z, 0, 2, repeated(2 * n - 1, 5));
      due("half outside", z.setBy(0, 2, 0, n), -12);
      due("what stood ahead", z.count(0), n - 1);
      row(z, 0, 2, repeated(2 * n, 5));
      due("just so many", z.setBy(0, 2, 2 * n, 1), -12);
      due("none stood ahead", z.count(0), n - 1);
    }
    SnuffOfElsewhere none = of();
    none.sheet(0, 2, 0);
    due("none of none", none.setBy(0, 2, 0, 0), 0);
    due("one of none", none.setBy(0, 2, 0, 1), -12);
  }

  private static void p37() {
    under("Promise 37: taken");
    says("What lies at place i: 0 .. 5 GENTLEMEN, 6 .. 11 their WIT, taken for 0 .. 5 one of that KIND (also of one that is one): the number; 6 WIT.");
    SnuffOfElsewhere x = of(0, 1, 10, 1, 20, 1, 30, 1, 40, 1, 50, 1);
    String[] is = {"0", "01", "02", "013", "024", "05"};
    for (int p = 0; p < 6; p++) {
      x.put(p, 8, 99 - p);
      for (int kind = 0; kind < 6; kind++) {
        due(p + " for " + kind, x.taken(p, kind), is[p].indexOf('0' + kind) >= 0 ? p : -13);
        due("wit of " + p + " for " + kind, x.taken(6 + p, kind), -13);
      }
      due(p + " for wit", x.taken(p, 6), -13);
      due("wit of " + p, x.taken(6 + p, 6), 99 - p);
    }
    says("BAD: kind; -12: i; -11: none such; -13.");
    range("taken", 0, 0, 11, -12, 0, 6);
    range("taken", 1, 0, 6, BAD, 0, 0);
    refused(BAD, "taken", 12, 7);
    refused(BAD, "taken", -1, -1);
    refused(BAD, "taken", 3, 7);
    refused(-12, "taken", 12, 6);
    refused(-12, "taken", -1, 0);
    for (int p = 3; p < 6; p++) {
      for (int kind = 0; kind < 7; kind++) {
        refused(-11, "taken", p, kind);
        refused(-11, "taken", 6 + p, kind);
      }
    }
    refused(-13, "taken", 0, 6);
    refused(-13, "taken", 6, 0);
  }

  public static void main(String[] args) {
    p01();
    p02();
    p03();
    p04();
    p05();
    p06();
    p07();
    p08();
    p09();
    p10();
    p11();
    p12();
    p13();
    p14();
    p15();
    p16();
    p17();
    p18();
    p19();
    p20();
    p21();
    p22();
    p23();
    p24();
    p25();
    p26();
    p27();
    p28();
    p29();
    p30();
    p31();
    p32();
    p33();
    p34();
    p35();
    p36();
    p37();
    end();
  }
}
