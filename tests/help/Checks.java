import java.math.BigInteger;
import java.nio.charset.StandardCharsets;
import java.nio.file.Files;
import java.nio.file.Path;
import java.util.Arrays;

// What the tests share: checks that name the document's sentence, sets made ready, calls by their names.
class Checks {
  static final int BAD = -2, STATE = -3, FULL = -4;
  static final long NO = -4611686018427387904L;
  static final int MOST = Integer.MAX_VALUE, LEAST = Integer.MIN_VALUE;

  private static int wrong = 0;
  private static final String DOCUMENT = document();
  private static String part = "", sentence = "";

  // ---- checks

  static void due(String call, long got, long want) {
    if (got != want) fails(call + " answered " + got + ", due is " + want);
  }

  static void fails(String what) {
    wrong++;
    System.out.println((sentence.isEmpty() ? "" : "«" + sentence + "» ") + what);
  }

  static void end() {
    System.out.println(wrong == 0 ? "all answers are as due" : wrong + " answers are not as due");
    if (wrong != 0) System.exit(1);
  }

  // ---- the document

  private static String document() {
    try {
      Path doc = Path.of("../shared/DOC.md");
      return Files.exists(doc) ? plain(Files.readString(doc, StandardCharsets.UTF_8)) : "";
    } catch (java.io.IOException e) {
      throw new IllegalStateException(e);
    }
  }

  private static String plain(String words) {
    return words.replaceAll("\\s+", " ");
  }

  // The sentences told from here on stand under this heading.
  static void under(String heading) {
    sentence = "";
    int from = DOCUMENT.indexOf("## " + heading), to = DOCUMENT.indexOf(" ## ", from + 1);
    if (from < 0 && !DOCUMENT.isEmpty()) fails("the document has no heading " + heading);
    part = from < 0 ? "" : DOCUMENT.substring(from, to < 0 ? DOCUMENT.length() : to);
  }

  // What is checked from here on is what the document says in these words.
  static void says(String words) {
    sentence = words;
    if (!DOCUMENT.isEmpty() && !part.contains(plain(words))) fails("is not what the document says there");
  }

  // ---- sets

  static SnuffOfElsewhere of(int... kindMoreEach) {
    SnuffOfElsewhere x = new SnuffOfElsewhere();
    for (int i = 0; i + 1 < kindMoreEach.length; i += 2) {
      due("gentleman", x.gentleman(kindMoreEach[i], kindMoreEach[i + 1]), i / 2);
    }
    return x;
  }

  static void row(SnuffOfElsewhere x, int s, int sort, int... values) {
    due("sheet", x.sheet(s, sort, values.length), 1);
    for (int i = 0; i < values.length; i++) due("cell", x.cell(s, i, values[i]), 1);
  }

  static int[] repeated(int n, int v) {
    int[] row = new int[n];
    Arrays.fill(row, v);
    return row;
  }

  static void feed(SnuffOfElsewhere x, String bytes) {
    int size = x.count(5);
    for (int i = 0; i < bytes.length(); i += 5) {
      int[] a = new int[5];
      int n = Math.min(5, bytes.length() - i);
      for (int k = 0; k < n; k++) a[k] = bytes.charAt(i + k);
      size += n;
      due("feed " + i, x.feed(n, a[0], a[1], a[2], a[3], a[4]), size);
    }
  }

  static int text(SnuffOfElsewhere x, String bytes) {
    feed(x, bytes);
    return x.text();
  }

  // The text becomes the law.
  static void law(SnuffOfElsewhere x, String bytes) {
    int t = text(x, bytes);
    due(bytes, t < 0 ? t : 0, 0);
    x.force(t);
  }

  static void minutes(SnuffOfElsewhere x, int n) {
    for (int i = 0; i < n; i++) x.minute();
  }

  // Number i of a sheet, if it could be wit, else -1; 0 must be there, and sheets 2 and 3 are used for it.
  static int number(SnuffOfElsewhere x, int s, int sort, int i) {
    row(x, 2, 2, -1);
    x.sheet(3, sort, 1);
    due("copy", x.copy(s, i, 3, 0, 1), 1);
    return x.states(2, 3, 0, 8, 1);
  }

  static void numbers(String what, SnuffOfElsewhere x, int s, int sort, int... want) {
    for (int i = 0; i < want.length; i++) due(what + " " + i, number(x, s, sort, i), want[i]);
    due(what + ", none behind", x.cell(s, want.length, 0), -12);
  }

  // What an evening by a seed comes to, spent truly in rows of 40 and fewer: wit of all, and how many are taken.
  static int[] spent(SnuffOfElsewhere x, int seed, int n) {
    BigInteger times = BigInteger.valueOf(48271), modulo = BigInteger.valueOf(2147483647);
    BigInteger lot = BigInteger.valueOf(seed).add(BigInteger.ONE);
    int[] pinches = new int[n];
    for (int i = 0; i < n; i++) {
      lot = lot.multiply(times).mod(modulo);
      int who = lot.mod(BigInteger.valueOf(6)).intValue();
      lot = lot.multiply(times).mod(modulo);
      int sort = lot.mod(BigInteger.valueOf(8)).intValue();
      pinches[i] = who < x.count(0) ? 10 * who + sort : -1;
    }
    int taken = 0;
    for (int from = 0; from < n; from += 40) {
      row(x, 0, 2, Arrays.copyOfRange(pinches, from, Math.min(n, from + 40)));
      taken += x.spend(0);
    }
    int wit = 0;
    for (int p = 0; p < x.count(0); p++) wit += x.told(p, 8);
    return new int[] {wit, taken};
  }

  // ---- texts

  static void fault(String bytes, int place) {
    SnuffOfElsewhere x = new SnuffOfElsewhere();
    due(bytes, text(x, bytes), -100 - place);
    due("the tape behind " + bytes, x.count(5), 0);
    due("texts behind " + bytes, x.count(3), 1);
  }

  static void stands(String bytes) {
    SnuffOfElsewhere x = new SnuffOfElsewhere();
    due(bytes, text(x, bytes), 1);
    due("the tape behind " + bytes, x.count(5), 0);
    due("texts behind " + bytes, x.count(3), 2);
  }

  // What gains says of a gentleman of MORE 6 and SORT 5: grains 4, wit 30, sand 0 and 3, minute 17.
  static void worth(String e, int want) {
    SnuffOfElsewhere x = of(6, 5);
    x.pinch(0, 0);
    minutes(x, 3);
    x.pinch(0, 3);
    x.put(0, 5, 4);
    x.put(0, 8, 30);
    x.clock(17);
    law(x, "gone 1;gains " + e + ";spills 0;");
    due(e, x.asks(1, 0, 5), want);
  }

  // ---- a scene for refusals

  // Three, one of them gone; a second text, half a third on the tape; an image of another minute; sheets:
  // 0 an evening of ints, 1 the film of 0 by it, 2 shorts of gentlemen, 3 is missing.
  static SnuffOfElsewhere scene() {
    SnuffOfElsewhere x = of(3, 5, 14, 5, 25, 4);
    x.put(0, 8, 20);
    text(x, "gone 2;gains 3;spills 1;");
    x.image();
    x.pinch(1, 2);
    x.clock(40);
    row(x, 0, 2, 1, 12, -1, 23);
    x.film(0, 1, 0);
    row(x, 2, 1, 34, 3, 45, 2);
    feed(x, "gone 2;");
    return x;
  }

  // What is to be seen of a scene; behind it the scene is another one.
  static long[] seen(SnuffOfElsewhere x) {
    long[] all = new long[200];
    int n = 0;
    for (int what = 0; what < 6; what++) all[n++] = x.count(what);
    n = seenOfAll(x, all, n);
    for (int what = 0; what < 10; what++) all[n++] = x.room(what);
    for (int what = 0; what < 3; what++) all[n++] = x.pinches(2, 3, what);
    for (int what : new int[] {0, 1, 2, 3, 10, 11, 12, 20, 21, 22}) all[n++] = x.evening(0, what);
    for (int p = 0; p < 3; p++) all[n++] = x.judge(0, 1, p);
    for (int s = 0; s < 4; s++) all[n++] = x.cell(s, 4, 0);
    all[n++] = x.setBy(2, 1, 0, 2);
    for (int p = 3; p < 5; p++) for (int what = 8; what < 11; what++) all[n++] = x.told(p, what);
    feed(x, "gains 5;spills 1;");
    all[n++] = x.text();
    all[n++] = x.force(2);
    all[n++] = x.asks(1, 0, 0);
    all[n++] = x.back();
    for (int what = 0; what < 6; what++) all[n++] = x.count(what);
    seenOfAll(x, all, n);
    return all;
  }

  private static int seenOfAll(SnuffOfElsewhere x, long[] all, int from) {
    int n = from;
    for (int p = 0; p < 3; p++) for (int what = 0; what < 14; what++) all[n++] = x.told(p, what);
    return n;
  }

  static void asBefore(String what, SnuffOfElsewhere x) {
    long[] is = seen(x), was = seen(scene());
    for (int i = 0; i < is.length; i++) due(what + ": what is seen, " + i, is[i], was[i]);
  }

  // Of a call's numbers the one at i is refused outside least .. most, and not at its ends; a refusal changes nothing.
  static void range(String name, int i, int least, int most, long refusal, int... numbers) {
    int[] a = numbers.clone();
    SnuffOfElsewhere x = scene();
    for (int v : new int[] {least - 1, most + 1, LEAST, MOST, least - 256, most + 65536}) {
      a[i] = v;
      due(name + Arrays.toString(a), answer(x, name, a), refusal);
    }
    asBefore(name + " refused", x);
    for (int v : new int[] {least, most}) {
      a[i] = v;
      if (answer(scene(), name, a) == refusal) fails(name + Arrays.toString(a) + " is refused: " + refusal);
    }
  }

  // A call of a scene is refused so, and changes nothing.
  static void refused(long refusal, String name, int... numbers) {
    SnuffOfElsewhere x = scene();
    due(name + Arrays.toString(numbers), answer(x, name, numbers), refusal);
    asBefore(name + Arrays.toString(numbers), x);
  }

  static long answer(SnuffOfElsewhere x, String name, int[] a) {
    switch (name) {
      case "count": return x.count(a[0]);
      case "clock": return x.clock(a[0]);
      case "feed": return x.feed(a[0], a[1], a[2], a[3], a[4], a[5]);
      case "text": return x.text();
      case "force": return x.force(a[0]);
      case "asks": return x.asks(a[0], a[1], a[2]);
      case "gentleman": return x.gentleman(a[0], a[1]);
      case "put": return x.put(a[0], a[1], a[2]);
      case "told": return x.told(a[0], a[1]);
      case "pinches": return x.pinches(a[0], a[1], a[2]);
      case "pinch": return x.pinch(a[0], a[1]);
      case "give": return x.give(a[0], a[1], a[2]);
      case "minute": return x.minute();
      case "room": return x.room(a[0]);
      case "evening": return x.evening(a[0], a[1]);
      case "spend": return x.spend(a[0]);
      case "plan": return x.plan(a[0], a[1], a[2]);
      case "which": return x.which(a[0], a[1]);
      case "tour": return x.tour(a[0], a[1]);
      case "share": return x.share(a[0], a[1]);
      case "box": return x.box(a[0], a[1]);
      case "judge": return x.judge(a[0], a[1], a[2]);
      case "kinds": return x.kinds(a[0], a[1], a[2], a[3]);
      case "states": return x.states(a[0], a[1], a[2], a[3], a[4]);
      case "whose": return x.whose(a[0], a[1]);
      case "laws": return x.laws(a[0], a[1], a[2]);
      case "film": return x.film(a[0], a[1], a[2]);
      case "drawn": return x.drawn(a[0], a[1], a[2]);
      case "odds": return x.odds(a[0], a[1], a[2], a[3]);
      case "image": return x.image();
      case "back": return x.back();
      case "sheet": return x.sheet(a[0], a[1], a[2]);
      case "cell": return x.cell(a[0], a[1], a[2]);
      case "copy": return x.copy(a[0], a[1], a[2], a[3], a[4]);
      case "setBy": return x.setBy(a[0], a[1], a[2], a[3]);
      case "taken": return x.taken(a[0], a[1]);
      default: throw new IllegalArgumentException(name);
    }
  }
}
