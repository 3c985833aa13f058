import java.util.ArrayList;
import java.util.Arrays;
import java.util.HashMap;
import java.util.List;
import java.util.Map;
import java.util.Random;
import java.util.TreeMap;
import java.util.function.IntBinaryOperator;

// Runs of calls by lots (of a fixed seed), each answer against a plain model written apart from the class.
public final class ModelTest {
  private static final int RUNS = 1500, CALLS = 512;
  private static final String[] FACE = {"count", "clock", "feed", "text", "force", "asks", "gentleman", "put", "told",
    "pinches", "pinch", "give", "minute", "room", "evening", "spend", "plan", "which", "tour", "share", "box", "judge",
    "kinds", "states", "whose", "laws", "film", "drawn", "odds", "image", "back", "sheet", "cell", "copy", "setBy", "taken"};

  // ---- the model

  interface Worth { int of(Set w, Man m, int sort); }

  static final class Man implements Cloneable {
    int kind, more, wit, sand, where = -1, left;
    int[] grains = new int[8];
    Man twin() {
      try {
        Man m = (Man) clone();
        m.grains = grains.clone();
        return m;
      } catch (CloneNotSupportedException e) {
        throw new IllegalStateException(e);
      }
    }
  }

  static final class Fault extends Exception {
    final int place;
    Fault(int place) { this.place = place; }
  }

  static final class Parser {
    static final List<String> KEYS = Arrays.asList("gone", "gains", "spills", "or", "and", "not");
    static final List<String> NAMES = Arrays.asList("sort", "grains", "wit", "sand", "minute", "more");
    final List<String> tokens = new ArrayList<>();
    final List<Integer> places = new ArrayList<>();
    int at;
    final List<String> open = new ArrayList<>();

    // A token that can never stand is "?".
    Parser(String tape) {
      int i = 0;
      while (i < tape.length()) {
        char c = tape.charAt(i);
        int from = i;
        if (c == ' ' || c == '\n') { i++; continue; }
        if (c >= 'a' && c <= 'z') {
          while (i < tape.length() && tape.charAt(i) >= 'a' && tape.charAt(i) <= 'z') i++;
          String word = tape.substring(from, i);
          tokens.add(KEYS.contains(word) || NAMES.contains(word) ? word : "?");
        } else if (c >= '0' && c <= '9') {
          while (i < tape.length() && tape.charAt(i) >= '0' && tape.charAt(i) <= '9') i++;
          tokens.add(i - from > 4 ? "?" : tape.substring(from, i));
        } else {
          i++;
          tokens.add("();+-*<=".indexOf(c) >= 0 ? String.valueOf(c) : "?");
        }
        places.add(from);
      }
      tokens.add("");
      places.add(tape.length());
    }

    Worth[] text() throws Fault {
      Worth[] parts = new Worth[3];
      for (int i = 0; i < 3; i++) {
        must(KEYS.get(i));
        parts[i] = e();
        must(";");
      }
      must("");
      return parts;
    }

    Fault fault() { return new Fault(places.get(at)); }
    boolean is(String t) { return tokens.get(at).equals(t); }
    void must(String t) throws Fault { if (!is(t)) throw fault(); at++; }
    boolean may(String t) { if (is(t)) { at++; return true; } return false; }
    void opens(String t) throws Fault {
      if (open.size() == 5) throw fault();
      must(t);
      open.add(t);
    }
    void closes() { open.remove(open.size() - 1); }

    static Worth join(Worth a, Worth b, IntBinaryOperator f) {
      return (w, m, s) -> f.applyAsInt(a.of(w, m, s), b.of(w, m, s));
    }

    Worth e() throws Fault {
      Worth a = and();
      while (may("or")) a = join(a, and(), (u, v) -> u != 0 || v != 0 ? 1 : 0);
      return a;
    }
    Worth and() throws Fault {
      Worth a = not();
      while (may("and")) a = join(a, not(), (u, v) -> u != 0 && v != 0 ? 1 : 0);
      return a;
    }
    Worth not() throws Fault {
      if (is("not")) {
        opens("not");
        Worth a = not();
        closes();
        return (w, m, s) -> a.of(w, m, s) == 0 ? 1 : 0;
      }
      Worth a = sum();
      if (may("<")) return join(a, sum(), (u, v) -> u < v ? 1 : 0);
      if (may("=")) return join(a, sum(), (u, v) -> u == v ? 1 : 0);
      return a;
    }
    Worth sum() throws Fault {
      Worth a = term();
      while (is("+") || is("-")) a = may("+") ? join(a, term(), (u, v) -> u + v) : join(a, less(), (u, v) -> u - v);
      return a;
    }
    Worth less() throws Fault { must("-"); return term(); }
    Worth term() throws Fault {
      Worth a = one();
      while (may("*")) a = join(a, one(), (u, v) -> u * v);
      return a;
    }
    Worth one() throws Fault {
      if (is("-")) {
        opens("-");
        Worth a = one();
        closes();
        return (w, m, s) -> -a.of(w, m, s);
      }
      if (is("(")) {
        opens("(");
        Worth a = e();
        must(")");
        closes();
        return a;
      }
      String t = tokens.get(at);
      if (t.matches("[0-9]+")) {
        at++;
        int v = Integer.parseInt(t);
        return (w, m, s) -> v;
      }
      int name = NAMES.indexOf(t);
      if (name < 0) throw fault();
      at++;
      switch (name) {
        case 0: return (w, m, s) -> s;
        case 1: return (w, m, s) -> m.grains[s];
        case 2: return (w, m, s) -> m.wit;
        case 3: return (w, m, s) -> Integer.bitCount(m.sand);
        case 4: return (w, m, s) -> w.minute;
        default: return (w, m, s) -> m.more;
      }
    }
  }

  // The set as it is, in thought, or kept.
  static final class Set {
    List<Man> men = new ArrayList<>();
    int minute, law;
    List<Worth[]> texts;

    Set twin() {
      Set t = new Set();
      for (Man m : men) t.men.add(m.twin());
      t.minute = minute;
      t.law = law;
      t.texts = texts;
      return t;
    }
    int law(int part, Man m, int sort) {
      int v = texts.get(law)[part].of(this, m, sort);
      int low = part == 1 ? -99 : 0, high = part == 2 ? 9 : 99;
      return v < low ? low : v > high ? high : v;
    }
    int gone(Man m, int sort) {
      int said = law(0, m, sort), v = said;
      if (m.kind == 1) v = said / 2;
      if (m.kind == 2) v = said + 10;
      if (m.kind == 3) v = m.more % 8 == sort ? 1 : said / 2;
      if (m.kind == 4) v = sort == 7 ? 99 : (said + 10) / 3;
      if (m.kind == 5) v = m.more;
      return v < 1 ? 1 : v;
    }
    int gains(Man m, int sort) {
      int said = law(1, m, sort);
      boolean been = (m.sand & 1 << sort) != 0;
      int asWit = been ? said : said + m.more;
      return new int[] {said, asWit, said, been ? 0 : asWit * 2, -said, said}[m.kind];
    }
    int spills(Man m, int sort) {
      int said = law(2, m, sort);
      int asLady = minute % 2 == 0 ? said + 1 : 0;
      return new int[] {said, said, asLady, said, asLady, 0}[m.kind];
    }
    boolean can(int p, int sort) {
      return p < men.size() && men.get(p).where == -1 && men.get(p).grains[sort] > 0;
    }
    boolean take(int p, int sort) {
      if (!can(p, sort)) return false;
      Man m = men.get(p);
      int gone = gone(m, sort), gains = gains(m, sort), spills = spills(m, sort);
      m.grains[sort]--;
      Man next = men.get((p + 1) % men.size());
      if (next != m) {
        while (spills-- > 0 && m.grains[sort] > 0 && next.grains[sort] < 9) {
          m.grains[sort]--;
          next.grains[sort]++;
        }
      }
      m.wit = Math.min(99, Math.max(0, m.wit + gains));
      m.sand |= 1 << sort;
      m.where = sort;
      m.left = gone;
      return true;
    }
    int pass() {
      int bits = 0;
      for (int p = 0; p < men.size(); p++) {
        Man m = men.get(p);
        if (m.where >= 0 && --m.left == 0) {
          m.where = -1;
          bits += 1 << p;
        }
      }
      minute++;
      return bits;
    }
    int away() {
      int n = 0;
      for (Man m : men) if (m.where >= 0) n++;
      return n;
    }
    int wit() {
      int n = 0;
      for (Man m : men) n += m.wit;
      return n;
    }
    boolean tells(int v) { return v == -1 || v >= 0 && v / 10 < men.size() && v % 10 < 8; }
    // the wit of one behind each minute
    int[] film(int[] row, int p) {
      Set t = twin();
      int[] wits = new int[row.length];
      for (int i = 0; i < row.length; i++) {
        if (row[i] >= 0) t.take(row[i] / 10, row[i] % 10);
        t.pass();
        wits[i] = t.men.get(p).wit;
      }
      return wits;
    }
  }

  Set set = new Set(), kept;
  final StringBuilder tape = new StringBuilder();
  final int[][] rows = new int[4][];
  final int[] sorts = new int[4];

  ModelTest() {
    set.texts = new ArrayList<>();
    try {
      set.texts.add(new Parser("gone 3+sort;gains sort*2;spills 0;").text());
    } catch (Fault f) {
      throw new IllegalStateException(f);
    }
  }

  static boolean in(int v, int a, int b) { return v >= a && v <= b; }
  boolean one(int p) { return in(p, 0, set.men.size() - 1); }
  static int bad(boolean ok, int refusal) { return ok ? 0 : refusal; }
  static int first(int... refusals) {
    for (int r : refusals) if (r != 0) return r;
    return 0;
  }

  long call(String name, int[] a) {
    switch (name) {
      case "count": return count(a[0]);
      case "clock": {
        if (!in(a[0], 0, 999)) return -2;
        int was = set.minute;
        set.minute = a[0];
        return was;
      }
      case "feed": {
        boolean ok = in(a[0], 1, 5);
        for (int i = 1; i < 6; i++) ok &= in(a[i], 0, 255);
        if (!ok) return -2;
        if (tape.length() + a[0] > 160) return -4;
        for (int i = 1; i <= a[0]; i++) tape.append((char) a[i]);
        return tape.length();
      }
      case "text": {
        if (set.texts.size() == 6) return -4;
        String all = tape.toString();
        tape.setLength(0);
        try {
          set.texts.add(new Parser(all).text());
          return set.texts.size() - 1;
        } catch (Fault f) {
          return -100 - f.place;
        }
      }
      case "force": {
        if (!in(a[0], 0, set.texts.size() - 1)) return -2;
        int was = set.law;
        set.law = a[0];
        return was;
      }
      case "asks":
        return in(a[0], 0, 2) && one(a[1]) && in(a[2], 0, 7) ? set.law(a[0], set.men.get(a[1]), a[2]) : -1000;
      case "gentleman": return gentleman(a[0], a[1]);
      case "put": return put(a[0], a[1], a[2]);
      case "told": return told(a[0], a[1]);
      case "pinches": {
        if (!one(a[0]) || !in(a[1], 0, 7)) return -5000;
        if (!in(a[2], 0, 2)) return -7000;
        Man m = set.men.get(a[0]);
        return new int[] {set.gone(m, a[1]), set.gains(m, a[1]), set.spills(m, a[1])}[a[2]];
      }
      case "pinch": {
        if (!one(a[0])) return -5;
        if (!in(a[1], 0, 7)) return -6;
        return set.take(a[0], a[1]) ? set.men.get(a[0]).left : -3;
      }
      case "give": {
        if (!one(a[0]) || !one(a[1]) || a[0] == a[1]) return -5;
        if (!in(a[2], 0, 7)) return -6;
        int[] from = set.men.get(a[0]).grains, to = set.men.get(a[1]).grains;
        if (from[a[2]] == 0 || to[a[2]] == 9) return -3;
        from[a[2]]--;
        return ++to[a[2]];
      }
      case "minute": return set.minute == 999 ? -3 : set.pass();
      case "room": return room(a[0]);
      case "evening": return evening(a[0], a[1]);
      case "spend": {
        int r = noEvening(a[0]);
        if (r != 0) return r;
        if (set.minute + rows[a[0]].length > 999) return -3;
        int n = 0;
        for (int v : rows[a[0]]) {
          if (v >= 0 && set.take(v / 10, v % 10)) n++;
          set.pass();
        }
        return n;
      }
      default: return callMore(name, a);
    }
  }

  long callMore(String name, int[] a) {
    switch (name) {
      case "plan": return plan(a[0], a[1], a[2]);
      case "which": return which(a[0], a[1]);
      case "tour": return tour(a[0], a[1]);
      case "share": return share(a[0], a[1]);
      case "box": {
        if (!one(a[0]) || !in(a[1], 0, 1)) return SnuffOfElsewhere.NO;
        int all = 0;
        for (Man m : set.men) all += Arrays.stream(m.grains).sum();
        return all == 0 ? SnuffOfElsewhere.NO : ratio(Arrays.stream(set.men.get(a[0]).grains).sum(), all, a[1]);
      }
      case "judge": case "kinds": case "states": case "whose": case "laws": return tales(name, a);
      case "film": {
        if (!in(a[1], 0, 3) || a[0] == a[1]) return -2;
        int r = first(noEvening(a[0]), bad(one(a[2]), -5));
        if (r != 0) return r;
        rows[a[1]] = set.film(rows[a[0]], a[2]);
        sorts[a[1]] = 0;
        return rows[a[1]].length;
      }
      case "drawn": {
        if (!in(a[0], 0, 99999) || !in(a[1], 0, 60) || !in(a[2], 0, 1)) return -2;
        return drawn(a[0], a[1])[a[2]];
      }
      case "odds": {
        if (!in(a[0], 0, 99999) || !in(a[1], 1, 40) || !in(a[2], 0, 999) || !in(a[3], 0, 1)) return SnuffOfElsewhere.NO;
        int n = 0;
        for (int i = 0; i < a[1]; i++) if (drawn(a[0] + i, 20)[0] >= a[2]) n++;
        return ratio(n, a[1], a[3]);
      }
      case "image":
        kept = set.twin();
        return set.men.size();
      case "back":
        if (kept == null) return -3;
        set = kept.twin();
        return set.men.size();
      case "sheet": {
        if (!in(a[0], 0, 3) || !in(a[1], -1, 2) || a[1] >= 0 && a[2] > 40) return -2;
        if (a[1] >= 0 && a[2] < 0) return -14;
        rows[a[0]] = a[1] < 0 ? null : new int[a[2]];
        sorts[a[0]] = a[1];
        return 1;
      }
      case "cell": {
        if (!in(a[0], 0, 3)) return -2;
        if (rows[a[0]] == null) return -11;
        if (!in(a[1], 0, rows[a[0]].length - 1)) return -12;
        int bits = new int[] {24, 16, 0}[sorts[a[0]]];
        rows[a[0]][a[1]] = a[2] << bits >> bits;
        return 1;
      }
      case "copy": {
        if (!in(a[0], 0, 3) || !in(a[2], 0, 3)) return -2;
        int[] from = rows[a[0]], to = rows[a[2]];
        if (from == null || to == null) return -11;
        if (sorts[a[0]] != sorts[a[2]]) return -13;
        long i = a[1], j = a[3], n = a[4];
        if (i < 0 || j < 0 || n < 0 || i + n > from.length || j + n > to.length) return -12;
        int[] were = from.clone();
        for (int k = 0; k < n; k++) to[(int) j + k] = were[(int) i + k];
        return n;
      }
      case "setBy": {
        if (!in(a[0], 0, 3) || !in(a[1], 0, 2) || !in(a[3], 0, 6)) return -2;
        int[] row = rows[a[0]];
        if (row == null) return -11;
        if (sorts[a[0]] != a[1]) return -13;
        int came = 0;
        for (int k = 0; k < a[3]; k++) {
          long i = (long) a[2] + 2 * k;
          if (i < 0 || i + 1 >= row.length) return -12;
          if (gentleman(row[(int) i], row[(int) i + 1]) >= 0) came++;
        }
        return came;
      }
      case "taken": {
        if (!in(a[1], 0, 6)) return -2;
        if (!in(a[0], 0, 11)) return -12;
        if (!one(a[0] % 6)) return -11;
        Man m = set.men.get(a[0] % 6);
        if (a[0] >= 6) return a[1] == 6 ? m.wit : -13;
        for (int k = m.kind; k >= 0; k = new int[] {-1, 0, 0, 1, 2, 0}[k]) if (k == a[1]) return a[0];
        return -13;
      }
      default: throw new IllegalStateException(name);
    }
  }

  int count(int what) {
    if (!in(what, 0, 5)) return -2;
    return new int[] {set.men.size(), set.minute, set.men.size() - set.away(), set.texts.size(), set.law, tape.length()}[what];
  }
  int gentleman(int kindMore, int each) {
    if (!in(kindMore, 0, 59) || !in(each, 0, 9)) return -2;
    if (set.men.size() == 6) return -4;
    Man m = new Man();
    m.kind = kindMore / 10;
    m.more = kindMore % 10;
    Arrays.fill(m.grains, each);
    set.men.add(m);
    return set.men.size() - 1;
  }
  int put(int p, int what, int v) {
    if (!one(p)) return -5;
    if (!in(what, 0, 8) || !in(v, 0, what == 8 ? 99 : 9)) return -7;
    int was = told(p, what);
    putIn(set.men.get(p), what, v);
    return was;
  }
  static void putIn(Man m, int what, int v) {
    if (what == 8) m.wit = v; else m.grains[what] = v;
  }
  int told(int p, int what) {
    if (!one(p)) return -5;
    if (!in(what, 0, 13)) return -7;
    Man m = set.men.get(p);
    return what < 8 ? m.grains[what] : new int[] {m.wit, m.kind, m.more, m.sand, m.where, m.left}[what - 8];
  }
  int room(int what) {
    if (!in(what, 0, 9)) return -2;
    int bits = 0, most = 0;
    for (int p = 0; p < set.men.size(); p++) {
      Man m = set.men.get(p);
      if (m.where == what - 1) bits |= 1 << p;
      if (m.left > most) most = m.left;
    }
    return what == 9 ? most : bits;
  }
  int noEvening(int s) {
    if (!in(s, 0, 3)) return -2;
    if (rows[s] == null) return -11;
    for (int v : rows[s]) if (!set.tells(v)) return -2;
    return 0;
  }
  int evening(int s, int what) {
    int r = noEvening(s);
    if (r != 0) return r;
    int size = set.men.size();
    if (!in(what, 0, 3) && !in(what, 10, 9 + size) && !in(what, 20, 19 + size)) return -7;
    Set t = set.twin();
    int[] is = {0, 0, 0, -1};
    for (int i = 0; i < rows[s].length; i++) {
      int v = rows[s][i];
      if (v >= 0) {
        if (t.take(v / 10, v % 10)) is[0]++;
        else if (is[3] == -1) is[3] = i;
      }
      is[1] = Math.max(is[1], t.away());
      is[2] += t.away();
      t.pass();
    }
    return what >= 20 ? t.men.get(what - 20).sand : what >= 10 ? t.men.get(what - 10).wit : is[what];
  }
  // All sums that can be had: minutes, and the most gained in just so many.
  int plan(int p, int minutes, int what) {
    if (!one(p)) return -5;
    if (!in(minutes, 0, 60) || !in(what, 0, 1)) return -7;
    Man m = set.men.get(p);
    Map<Integer, Integer> sums = new TreeMap<>();
    sums.put(0, 0);
    for (int sort = 0; sort < 8; sort++) {
      Map<Integer, Integer> more = new TreeMap<>();
      for (Map.Entry<Integer, Integer> e : sums.entrySet()) {
        for (int n = 0; n <= m.grains[sort]; n++) {
          int t = e.getKey() + n * set.gone(m, sort);
          if (t <= minutes) more.merge(t, e.getValue() + n * set.gains(m, sort), Math::max);
        }
      }
      sums = more;
    }
    int best = 0, few = 0;
    for (Map.Entry<Integer, Integer> e : sums.entrySet()) {
      if (e.getValue() > best) {
        best = e.getValue();
        few = e.getKey();
      }
    }
    return what == 0 ? best : few;
  }
  int which(int p, int what) {
    if (!one(p)) return -5;
    if (!in(what, 0, 1)) return -7;
    int best = -1, wit = set.men.get(p).wit;
    for (int sort = 0; sort < 8; sort++) {
      Set t = set.twin();
      if (t.take(p, sort) && (best < 0 || t.men.get(p).wit > wit)) {
        best = sort;
        wit = t.men.get(p).wit;
      }
    }
    return what == 0 ? best : wit;
  }
  int tour(int p, int what) {
    if (!one(p)) return -5;
    if (!in(what, 0, 1)) return -7;
    int n = 0;
    Set t = set.twin();
    Man m = t.men.get(p);
    for (int sort = 0; sort < 8; sort++) {
      if ((m.sand >> sort) % 2 == 0) {
        n++;
        if (m.grains[sort] == 0) return -1;
      }
    }
    if (what == 0) return n;
    int minutes = 0;
    while (m.where >= 0 || m.sand != 255) {
      if (minutes == 200) return -1;
      if (m.where < 0) {
        int sort = Integer.numberOfTrailingZeros(~m.sand);
        if (!t.take(p, sort)) return -1;
      }
      t.pass();
      minutes++;
    }
    return minutes;
  }
  int share(int sort, int what) {
    if (!in(sort, 0, 7) || !in(what, 0, 1)) return -2;
    int best = -1, wit = set.wit();
    for (int q = set.men.size() - 1; q >= 0; q--) {
      Set t = set.twin();
      if (t.men.get(q).grains[sort]++ == 9) continue;
      for (int p = 0; p < t.men.size(); p++) t.take(p, sort);
      if (best < 0 || t.wit() >= wit) {
        best = q;
        wit = t.wit();
      }
    }
    return what == 0 ? best : wit;
  }
  long ratio(int a, int b, int part) {
    int g = java.math.BigInteger.valueOf(a).gcd(java.math.BigInteger.valueOf(b)).intValue();
    return part == 0 ? a / g : b / g;
  }
  int[] drawn(int seed, int n) {
    Set t = set.twin();
    long lot = seed + 1L;
    int taken = 0;
    for (int i = 0; i < n; i++) {
      lot = lot * 48271 % 2147483647;
      int who = (int) (lot % 6);
      lot = lot * 48271 % 2147483647;
      if (t.take(who, (int) (lot % 8))) taken++;
      t.pass();
    }
    return new int[] {t.wit(), taken};
  }
  static int otherwise(int[] film, int[] told) {
    for (int i = 0; i < told.length; i++) if (film[i] != told[i]) return i;
    return -1;
  }
  int tales(String name, int[] a) {
    if (!in(a[1], 0, 3)) return -2;
    int r = noEvening(a[0]);
    if (r != 0) return r;
    int[] row = rows[a[0]], told = rows[a[1]];
    if (told == null) return -11;
    if (told.length > row.length) return -2;
    boolean whose = name.equals("whose");
    if (!whose && !one(a[2])) return -5;
    int bits = 0;
    if (whose) {
      for (int p = 0; p < set.men.size(); p++) if (otherwise(set.film(row, p), told) < 0) bits |= 1 << p;
      return bits;
    }
    int p = a[2];
    if (name.equals("judge")) return otherwise(set.film(row, p), told);
    if (name.equals("kinds") && !in(a[3], 0, 1)) return -7;
    if (name.equals("states") && (!in(a[3], 0, 8) || !in(a[4], 0, 1))) return -7;
    List<Integer> hits = new ArrayList<>();
    int last = name.equals("laws") ? set.texts.size() : name.equals("kinds") ? a[3] == 0 ? 6 : 10 : a[3] == 8 ? 100 : 10;
    for (int v = 0; v < last; v++) {
      Set t = set.twin();
      Man m = t.men.get(p);
      if (name.equals("laws")) t.law = v;
      else if (name.equals("states")) putIn(m, a[3], v);
      else if (a[3] == 0) m.kind = v;
      else m.more = v;
      if (otherwise(t.film(row, p), told) < 0) hits.add(v);
    }
    if (name.equals("states")) return a[4] == 0 ? hits.size() : hits.isEmpty() ? -1 : hits.get(0);
    for (int v : hits) bits |= 1 << v;
    return bits;
  }

  // ---- calls by lots

  // The most that each argument is, mostly; below 0 and above now and then.
  static int[] bounds(String name) {
    switch (name) {
      case "count": return new int[] {5};
      case "clock": return new int[] {999};
      case "feed": return new int[] {5, 255, 255, 255, 255, 255};
      case "force": return new int[] {5};
      case "asks": return new int[] {2, 5, 7};
      case "gentleman": return new int[] {59, 9};
      case "put": return new int[] {5, 8, 9};
      case "told": return new int[] {5, 13};
      case "pinches": return new int[] {5, 7, 2};
      case "pinch": return new int[] {5, 7};
      case "give": return new int[] {5, 5, 7};
      case "room": return new int[] {9};
      case "evening": return new int[] {3, 25};
      case "spend": return new int[] {3};
      case "plan": return new int[] {5, 60, 1};
      case "which": case "tour": return new int[] {5, 1};
      case "share": return new int[] {7, 1};
      case "box": return new int[] {5, 1};
      case "judge": case "laws": case "film": return new int[] {3, 3, 5};
      case "kinds": return new int[] {3, 3, 5, 1};
      case "states": return new int[] {3, 3, 5, 8, 1};
      case "whose": return new int[] {3, 3};
      case "drawn": return new int[] {99999, 60, 1};
      case "odds": return new int[] {99999, 40, 300, 1};
      case "sheet": return new int[] {3, 2, 40};
      case "cell": return new int[] {3, 39, 99};
      case "copy": return new int[] {3, 20, 3, 20, 20};
      case "setBy": return new int[] {3, 2, 20, 6};
      case "taken": return new int[] {11, 6};
      default: return new int[0];
    }
  }

  static int[] args(String name, Random lots) {
    int[] most = bounds(name);
    int[] a = new int[most.length];
    boolean wild = lots.nextInt(12) == 0;
    for (int i = 0; i < a.length; i++) {
      a[i] = lots.nextInt(most[i] + 1);
      if (wild && lots.nextInt(3) == 0) {
        a[i] = new int[] {-1, most[i] + 1, Integer.MAX_VALUE, Integer.MIN_VALUE, -2, lots.nextInt()}[lots.nextInt(6)];
      }
    }
    if (name.equals("put") && a[1] == 8) a[2] = a[2] * 11;
    if (name.equals("sheet") && lots.nextBoolean()) a[2] = a[2] / 4;
    return a;
  }

  static String one(Random lots, int depth) {
    switch (lots.nextInt(depth > 3 ? 4 : 6)) {
      case 0: return String.valueOf(lots.nextInt(12));
      case 1: case 2: case 3: return Parser.NAMES.get(lots.nextInt(6));
      case 4: return "-" + one(lots, depth + 1);
      default: return "(" + e(lots, depth + 1) + ")";
    }
  }
  static String e(Random lots, int depth) {
    StringBuilder b = new StringBuilder();
    if (lots.nextInt(5) == 0) b.append("not ");
    b.append(one(lots, depth));
    for (int n = lots.nextInt(3); n > 0; n--) {
      b.append(new String[] {"+", " -", " * ", "*", "<", " = ", " or ", " and ", " and not "}[lots.nextInt(9)]);
      b.append(one(lots, depth));
    }
    return b.toString();
  }
  static String text(Random lots) {
    String t = "gone " + e(lots, 0) + ";gains " + e(lots, 0) + " ;spills " + e(lots, 0) + ";";
    if (lots.nextInt(4) == 0 && !t.isEmpty()) {
      int i = lots.nextInt(t.length());
      String odd = "(-;*= \n\tznot 12345 or and gone";
      int j = lots.nextInt(odd.length());
      String put = odd.substring(j, Math.min(odd.length(), j + 1 + lots.nextInt(4)));
      t = t.substring(0, i) + put + t.substring(i + lots.nextInt(2));
    }
    return t.length() > 160 ? t.substring(0, 160) : t;
  }

  final SnuffOfElsewhere x = new SnuffOfElsewhere();
  final StringBuilder log = new StringBuilder();
  int calls;
  boolean same = true;

  void both(String name, int... a) {
    if (!same || calls++ >= CALLS) return;
    long due = call(name, a);
    long got = Checks.answer(x, name, a);
    log.append(name).append(Arrays.toString(a)).append(" -> ").append(due).append('\n');
    asked.merge(name + (due >= 0 ? " answered" : due == -1 ? " -1" : " refused"), 1, Integer::sum);
    if (due != got) {
      same = false;
      System.out.println(log + "answered " + got);
    }
  }

  void bothText(Random lots) {
    String t = text(lots);
    for (int i = 0; i < t.length(); i += 5) {
      int[] a = new int[6];
      for (int k = 0; k < 5 && i + k < t.length(); k++) {
        a[k + 1] = t.charAt(i + k);
        a[0]++;
      }
      both("feed", a);
    }
    both("text");
    if (lots.nextBoolean()) both("force", set.texts.size() - 1);
  }

  void bothRow(Random lots, int s) {
    int n = lots.nextInt(16);
    both("sheet", s, lots.nextInt(3), n);
    int men = Math.max(1, set.men.size());
    for (int i = 0; i < n; i++) both("cell", s, i, lots.nextInt(5) == 0 ? -1 : 10 * lots.nextInt(men) + lots.nextInt(8));
  }

  // A film of one, perhaps with a number otherwise, and what is asked of it.
  void bothTale(Random lots) {
    int s = lots.nextInt(4), told = (s + 1 + lots.nextInt(3)) % 4, p = lots.nextInt(Math.max(1, set.men.size()));
    bothRow(lots, s);
    if (lots.nextBoolean()) both("film", s, told, p);
    else both("film", s, told, lots.nextInt(6));
    if (lots.nextInt(3) == 0) both("put", p, lots.nextInt(9), lots.nextInt(10));
    if (lots.nextInt(3) == 0) both("cell", told, lots.nextInt(9), lots.nextInt(30));
    both("judge", s, told, p);
    both("whose", s, told);
    both("laws", s, told, p);
    both("kinds", s, told, p, lots.nextInt(2));
    both("states", s, told, p, lots.nextInt(9), lots.nextInt(2));
    both("states", s, told, p, 8, lots.nextInt(2));
    for (int what = 0; what < 4; what++) both("evening", s, what);
    both("evening", s, 10 + p);
    both("evening", s, 20 + p);
    if (lots.nextBoolean()) both("spend", s);
  }

  boolean run(Random lots) {
    int men = lots.nextInt(7);
    for (int i = 0; i < men; i++) both("gentleman", lots.nextInt(60), lots.nextInt(10));
    while (calls < CALLS && same) {
      int turn = lots.nextInt(60);
      if (turn == 0) bothText(lots);
      else if (turn == 1) bothRow(lots, lots.nextInt(4));
      else if (turn < 4) bothTale(lots);
      else {
        String name = FACE[lots.nextInt(FACE.length)];
        if (name.equals("back") && lots.nextInt(4) > 0) name = "minute";
        both(name, args(name, lots));
      }
    }
    return same;
  }

  static final Map<String, Integer> asked = new HashMap<>();

  public static void main(String[] args) {
    int wrong = 0;
    for (int run = 0; run < RUNS && wrong < 3; run++) {
      if (!new ModelTest().run(new Random(run))) {
        wrong++;
        System.out.println("run " + run + " is not as due");
      }
    }
    for (String name : FACE) {
      if (!asked.containsKey(name + " answered")) {
        wrong++;
        System.out.println(name + " was never answered");
      }
    }
    if (args.length > 0) System.out.println(new TreeMap<>(asked));
    System.out.println(wrong == 0 ? "all runs are as due" : wrong + " runs are not as due");
    if (wrong != 0) System.exit(1);
  }
}
