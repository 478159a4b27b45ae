import java.math.BigInteger;
import java.util.ArrayList;
import java.util.Arrays;
import java.util.HashMap;
import java.util.List;
import java.util.Map;
import java.util.regex.Matcher;
import java.util.regex.Pattern;

/** The document told once more, as slowly and plainly as it reads, to hold BesideTom against. */
final class Model {
  static final long NO = Long.MIN_VALUE;

  static final class P implements Cloneable {
    int number, kind, v, desk, knows;
    boolean away;
    int[] line = new int[4];

    P copy() {
      try {
        P p = (P) clone();
        p.line = line.clone();
        return p;
      } catch (CloneNotSupportedException e) {
        throw new IllegalStateException(e);
      }
    }

    boolean isA(int... kinds) {
      return Arrays.stream(kinds).anyMatch(k -> k == kind);
    }
  }

  static final class S {
    List<P> pupils = new ArrayList<>();
    int wear, week;
    String room;
    int held = -1;
    List<int[]> heard = new ArrayList<>(), term = new ArrayList<>(), book = new ArrayList<>();

    S copy() {
      S s = new S();
      for (P p : pupils) s.pupils.add(p.copy());
      s.wear = wear;
      s.week = week;
      s.room = room;
      s.held = held;
      s.heard.addAll(heard);
      s.term.addAll(term);
      s.book.addAll(book);
      return s;
    }

    List<String> clauses(String word) {
      List<String> found = new ArrayList<>();
      if (room == null) return found;
      for (String clause : room.split(";")) if (clause.startsWith(word)) found.add(clause.substring(5));
      return found;
    }

    /** What was read before: nothing else here is slow enough to be kept. */
    private static final Map<String, Integer> READ = new HashMap<>();

    int last(String word, int without) {
      return READ.computeIfAbsent(word + room, key -> lastAnew(word, without));
    }

    private int lastAnew(String word, int without) {
      List<String> all = clauses(word);
      return all.isEmpty() ? without : Math.max(1, Integer.parseInt(all.get(all.size() - 1)));
    }

    int wears() { return last("wear", 3); }

    int cost() { return last("cost", 4); }

    int mouth(P p, int desk) {
      if (room == null) return 3;
      int key = p.number + 10 * (desk + 10 * (p.kind + 10 * p.v));
      return READ.computeIfAbsent(key + room, any -> mouthAnew(p, desk));
    }

    private int mouthAnew(P p, int desk) {
      int sum = 3;
      for (String word : new String[] {"chat", "hush"}) {
        for (String clause : clauses(word)) {
          String[] part = clause.split(" ");
          if (holds(part[1], p, desk)) sum += Integer.parseInt(part[0]) * (word.equals("chat") ? 1 : -1);
        }
      }
      return Math.max(0, sum);
    }

    static int top(String e, char sign) {
      int open = 0;
      for (int i = 0; i < e.length(); i++) {
        if (e.charAt(i) == '(') open++;
        if (e.charAt(i) == ')') open--;
        if (open == 0 && e.charAt(i) == sign) return i;
      }
      return -1;
    }

    static boolean holds(String e, P p, int desk) {
      int or = top(e, '|');
      if (or >= 0) return holds(e.substring(0, or), p, desk) | holds(e.substring(or + 1), p, desk);
      int and = top(e, '&');
      if (and >= 0) return holds(e.substring(0, and), p, desk) & holds(e.substring(and + 1), p, desk);
      if (e.startsWith("!")) return !holds(e.substring(1), p, desk);
      if (e.startsWith("(")) return holds(e.substring(1, e.length() - 1), p, desk);
      int n = Integer.parseInt(e.substring(2));
      int[] values = {p.number, desk, p.kind, p.v, desk / 3, desk % 3};
      int is = values["pdkvrc".indexOf(e.charAt(0))];
      return e.charAt(1) == '<' ? is < n : e.charAt(1) == '=' ? is == n : is > n;
    }

    static boolean next(int a, int b) {
      int rows = Math.abs(a / 3 - b / 3), columns = Math.abs(a % 3 - b % 3);
      return rows + columns == 1;
    }

    List<P> neighbours(P p) {
      List<P> near = new ArrayList<>();
      for (P q : pupils) if (!q.away && next(p.desk, q.desk)) near.add(q);
      return near;
    }

    int voice(P p) {
      int near = neighbours(p).size(), mouth = mouth(p, p.desk), voice = mouth * near;
      if (p.isA(1, 4) && near > 0) voice += p.v;
      if (p.isA(2)) voice /= 2;
      if (p.isA(4)) voice += mouth;
      if (p.isA(5)) voice = 0;
      if (p.isA(6)) voice += p.line[week % 4];
      return voice;
    }

    int talk(P p) {
      if (p.isA(5) || p.away) return 0;
      int talk = voice(p);
      for (P q : neighbours(p)) if (q.isA(5)) talk -= 2;
      talk = Math.max(0, talk);
      return neighbours(p).isEmpty() ? talk : talk + wear / wears();
    }

    int noise() { return pupils.stream().mapToInt(this::talk).sum(); }

    int learns(P p) {
      if (p.away) return 0;
      int more = 10 - noise() / cost();
      if (p.isA(2, 5)) more -= neighbours(p).size();
      if (p.isA(3, 6) && p.desk / 3 == 1) more -= 5;
      if (p.isA(5)) more -= p.v;
      return Math.max(0, more);
    }

    int learnsAll() { return pupils.stream().mapToInt(this::learns).sum(); }

    int knowsAll() { return pupils.stream().mapToInt(p -> p.knows).sum(); }

    void week(boolean asked) {
      int[] more = pupils.stream().mapToInt(this::learns).toArray();
      for (P p : pupils) {
        p.knows += more[p.number];
        if (!asked) p.knows = Math.min(9999, p.knows);
      }
      wear = Math.min(99, wear + 1);
      week++;
    }

    S behind(int weeks) {
      S s = copy();
      for (int i = 0; i < weeks; i++) s.week(true);
      return s;
    }

    P at(int desk) {
      for (P p : pupils) if (p.desk == desk) return p;
      return null;
    }

    S with(int pupil, int desk) {
      S s = copy();
      P one = s.pupils.get(pupil), other = s.at(desk);
      if (other != null) other.desk = one.desk;
      one.desk = desk;
      return s;
    }

    S moved(int pupil, int desk) {
      S s = with(pupil, desk);
      s.wear = 0;
      return s;
    }

    boolean asHeard() {
      for (int[] h : heard) if (behind(h[1]).noise() != h[0]) return false;
      return true;
    }
  }

  S now = new S(), kept;
  List<String> rooms = new ArrayList<>();
  String text = "";
  List<Integer> trace = new ArrayList<>();
  Object[] tapes = new Object[6];

  static final Pattern ROOM = Pattern.compile(roomPattern());

  private static String roomPattern() {
    String test = "[pdkvrc][<=>][0-9][0-9]?", f = test;
    for (int i = 0; i < 4; i++) {
      String t = "(?:" + f + ")(?:&(?:" + f + "))*";
      f = test + "|!(?:" + f + ")|\\(" + t + "(?:\\|" + t + ")*\\)";
    }
    String t = "(?:" + f + ")(?:&(?:" + f + "))*", e = t + "(?:\\|" + t + ")*";
    String clause = "(?:(?:chat|hush) [0-9][0-9]? " + e + "|(?:wear|cost) [0-9][0-9]?)";
    // Possessive would be wrong here: each way on must be tried for hitEnd to tell whether a text could go on.
    return clause + "(?:;" + clause + "){0,9}";
  }

  static int fault(String text) {
    Matcher whole = ROOM.matcher(text);
    if (whole.matches()) return -1;
    for (int n = 0; n < text.length(); n++) {
      Matcher begun = ROOM.matcher(text.substring(0, n + 1));
      if (!begun.matches() && !begun.hitEnd()) return n;
    }
    return text.length();
  }

  boolean is(int p) { return p >= 0 && p < now.pupils.size(); }

  boolean off(int n, int least, int most) { return n < least || n > most; }

  P get(int p) { return now.pupils.get(p); }

  int pupil(int kind, int v) {
    if (off(kind, 0, 6)) return -1;
    if (off(v, 0, 9)) return -2;
    if (now.pupils.size() == 6) return -4;
    P p = new P();
    p.number = now.pupils.size();
    p.kind = kind;
    p.v = v;
    while (now.at(p.desk) != null) p.desk++;
    now.pupils.add(p);
    return p.number;
  }

  int of(int pupil, int what) {
    if (!is(pupil)) return -1;
    P p = get(pupil);
    if (!off(what, 10, 15)) return now.mouth(p, what - 10);
    int near = 0;
    for (P q : now.neighbours(p)) near += 1 << q.number;
    switch (what) {
      case 0: return p.kind;
      case 1: return p.v;
      case 2: return p.desk;
      case 3: return p.knows;
      case 4: return p.away ? 1 : 0;
      case 5: return near;
      case 6: return now.voice(p);
      case 7: return now.talk(p);
      case 8: return now.learns(p);
      default: return -1;
    }
  }

  int move(int pupil, int desk) {
    if (!is(pupil) || off(desk, 0, 5)) return -1;
    now = now.moved(pupil, desk);
    return now.noise();
  }

  int away(int pupil, boolean is) {
    if (!is(pupil)) return -1;
    int was = get(pupil).away ? 1 : 0;
    get(pupil).away = is;
    return was;
  }

  int knows(int pupil, int n) {
    if (!is(pupil)) return -1;
    if (off(n, 0, 9999)) return -2;
    int was = get(pupil).knows;
    get(pupil).knows = n;
    return was;
  }

  int line(int pupil, int part, int n) {
    if (!is(pupil) || off(part, 0, 3)) return -1;
    if (off(n, 0, 9)) return -2;
    if (get(pupil).kind != 6) return -3;
    int was = get(pupil).line[part];
    get(pupil).line[part] = n;
    return was;
  }

  int feed(int sign) {
    if (off(sign, 0, 127)) return -2;
    if (text.length() == 100) return -4;
    text += (char) sign;
    return text.length();
  }

  int room() {
    if (rooms.size() == 6) return -4;
    int fault = fault(text);
    String was = text;
    text = "";
    if (fault >= 0) return -10 - fault;
    rooms.add(was);
    now.room = was;
    now.held = rooms.size() - 1;
    return now.held;
  }

  int told(int what) {
    if (!off(what, 10, 15)) return now.at(what - 10) == null ? -5 : now.at(what - 10).number;
    switch (what) {
      case 0: return now.week;
      case 1: return now.wear;
      case 2: return now.wears();
      case 3: return now.cost();
      case 4: return now.noise();
      case 5: return now.knowsAll();
      case 6: return now.learnsAll();
      default: return -1;
    }
  }

  int pass(int n) {
    if (off(n, 0, 60)) return -2;
    if (now.week + n > 9999) return -3;
    for (int i = 0; i < n; i++) now.week(false);
    return now.noise();
  }

  boolean ofPupil(int what) { return what >= 10 && is(what - 10); }

  int on(int n, int what) {
    if (off(what, 0, 1) && !ofPupil(what)) return -1;
    if (off(n, 0, 60)) return -2;
    S s = now.behind(n);
    return what == 0 ? s.noise() : what == 1 ? s.knowsAll() : s.pupils.get(what - 10).knows;
  }

  int loud(int q) {
    if (off(q, 0, 999)) return -2;
    for (int n = 0; n <= 60; n++) if (now.behind(n).noise() >= q) return n;
    return -5;
  }

  /** All plans, the first as a row first. */
  private List<S> plans() {
    List<S> plans = new ArrayList<>();
    int n = now.pupils.size(), all = (int) Math.pow(6, n);
    for (int code = 0; code < all; code++) {
      int left = code, used = 0;
      int[] desks = new int[n];
      for (int p = n - 1; p >= 0; p--) {
        desks[p] = left % 6;
        used |= 1 << desks[p];
        left /= 6;
      }
      if (Integer.bitCount(used) < n) continue;
      S s = now.copy();
      s.wear = 0;
      for (int p = 0; p < n; p++) s.pupils.get(p).desk = desks[p];
      plans.add(s);
    }
    return plans;
  }

  int quietest(int what) {
    if (what != 0 && !ofPupil(what)) return -1;
    S found = null;
    for (S s : plans()) if (found == null || s.noise() < found.noise()) found = s;
    return what == 0 ? found.noise() : found.pupils.get(what - 10).desk;
  }

  int wisest(int what) {
    if (what != 0 && !ofPupil(what)) return -1;
    S found = null;
    int most = 0;
    for (S s : plans()) {
      int learns = s.learnsAll();
      if (found == null || learns > most) {
        found = s;
        most = learns;
      }
    }
    return what == 0 ? most : found.pupils.get(what - 10).desk;
  }

  int seat(int pupil) {
    if (!is(pupil)) return -1;
    int first = 0;
    for (int d = 1; d < 6; d++) if (now.moved(pupil, d).noise() < now.moved(pupil, first).noise()) first = d;
    return first;
  }

  int best(int what) {
    if (what != 0 && what != 1) return -1;
    int found = -5, n = now.pupils.size(), least = what == 0 ? now.noise() : Integer.MAX_VALUE;
    for (int a = 0; a < n; a++) {
      if (what == 1) {
        int noise = without(a).noise();
        if (noise < least) found = a;
        least = Math.min(least, noise);
      }
      for (int b = a + 1; b < n && what == 0; b++) {
        int noise = now.moved(a, get(b).desk).noise();
        if (noise < least) found = 10 * a + b;
        least = Math.min(least, noise);
      }
    }
    return found;
  }

  private S without(int p) {
    S s = now.copy();
    s.pupils.get(p).away = true;
    return s;
  }

  int few(int q) {
    if (off(q, 0, 999)) return -2;
    for (int changes = 0; changes <= 3; changes++) if (calm(now, changes, q)) return changes;
    return -5;
  }

  private static boolean calm(S s, int changes, int q) {
    if (changes == 0) return s.noise() <= q;
    for (int a = 0; a < s.pupils.size(); a++) {
      for (int b = a + 1; b < s.pupils.size(); b++) {
        if (calm(s.moved(a, s.pupils.get(b).desk), changes - 1, q)) return true;
      }
    }
    return false;
  }

  int hear(int noise, int n) {
    if (noise == -1) {
      now.heard.clear();
      return 0;
    }
    if (off(noise, 0, 999) || off(n, 0, 20)) return -2;
    if (now.heard.size() == 5) return -4;
    now.heard.add(new int[] {noise, n});
    return now.heard.size();
  }

  int where(int pupil) {
    if (!is(pupil)) return -1;
    int bits = 0;
    for (int d = 0; d < 6; d++) if (now.with(pupil, d).asHeard()) bits += 1 << d;
    return bits;
  }

  int can(int pupil, int what) {
    if (!is(pupil) || off(what, 0, 1)) return -1;
    List<Integer> found = new ArrayList<>();
    for (int v = 0; v <= 9; v++) {
      S s = now.copy();
      s.pupils.get(pupil).v = v;
      if (s.asHeard()) found.add(v);
    }
    return what == 0 ? found.size() : found.isEmpty() ? -5 : found.get(0);
  }

  private long fraction(int above, int part) {
    int below = now.pupils.size();
    if (below == 0 || off(part, 0, 1)) return NO;
    int common = BigInteger.valueOf(above).gcd(BigInteger.valueOf(below)).intValue();
    return (part == 0 ? above : below) / common;
  }

  long odds(int q, int part) {
    if (off(q, 0, 999)) return NO;
    int calm = 0;
    for (P p : now.pupils) if (without(p.number).noise() <= q) calm++;
    return fraction(calm, part);
  }

  long mean(int part) { return fraction(now.learnsAll(), part); }

  int term(int what, int n) {
    if (what == -1) {
      now.term.clear();
      return 0;
    }
    if (off(what, 0, 3)) return -1;
    if ((what == 1 || what == 2) && !is(n)) return -1;
    if (what == 3 && (!is(0) || off(n, 0, 5))) return -1;
    if (now.term.size() == 10) return -4;
    now.term.add(new int[] {what, n});
    return now.term.size();
  }

  int ends(int what) {
    if (off(what, 0, 1)) return -1;
    S s = now.copy();
    for (int[] row : now.term) {
      if (row[0] == 0) s.week(true);
      if (row[0] == 1) s.pupils.get(row[1]).away = true;
      if (row[0] == 2) s.pupils.get(row[1]).away = false;
      if (row[0] == 3) s = s.moved(0, row[1]);
    }
    return what == 0 ? s.noise() : s.knowsAll();
  }

  int book(int pupil, int desk) {
    if (pupil == -1) {
      now.book.clear();
      return 0;
    }
    if (!is(pupil) || off(desk, 0, 5)) return -1;
    if (now.book.size() == 8) return -4;
    now.book.add(new int[] {pupil, desk});
    return now.book.size();
  }

  int looked() {
    for (int[] row : now.book) if (get(row[0]).desk != row[1]) return now.book.indexOf(row);
    return -5;
  }

  int judge(int tape, int i) {
    if (off(tape, 0, 5)) return -1;
    if (tapes[tape] != null && !(tapes[tape] instanceof byte[])) return -12;
    byte[] row = (byte[]) tapes[tape];
    for (P p : now.pupils) {
      if (row == null || i < 0 || (long) i + p.number >= row.length) return 100 + p.number;
      if (row[i + p.number] != p.desk) return p.number;
    }
    return -5;
  }

  int image() {
    kept = now.copy();
    return now.pupils.size();
  }

  int undo() {
    if (kept == null) return -3;
    now = kept.copy();
    return now.pupils.size();
  }

  int act(int pupil, int act, int x) {
    trace.clear();
    if (!is(pupil) || off(act, 0, 2)) return 0;
    return body(get(pupil), get(pupil).kind, act, x);
  }

  private static final int[] UP = {-1, 0, 0, 0, 1, 2, 3};
  private static final int[][] BODIES = {
    {10, 11, 12}, {0, 20, 0}, {30, 0, 0}, {0, 0, 40}, {50, 51, 0}, {0, 0, 60}, {71, 70, 0}};

  private int body(P p, int from, int act, int x) {
    int kind = from;
    while (BODIES[kind][act] == 0) kind = UP[kind];
    int up = UP[kind], body = BODIES[kind][act];
    trace.add(body);
    switch (body) {
      case 10: return x + p.number;
      case 11: return body(p, p.kind, 0, x) - p.v;
      case 12: return body(p, p.kind, 1, x) * 2;
      case 20: return body(p, up, 1, x) ^ 6;
      case 30: return body(p, up, 0, x * 3);
      case 40: {
        int first = body(p, up, 2, x);
        return first + body(p, p.kind, 1, 1);
      }
      case 50: return -body(p, up, 0, x);
      case 51: return body(p, up, 1, x + 1);
      case 60: return body(p, up, 2, x - p.number);
      case 70: {
        int first = body(p, up, 1, x);
        return first + body(p, up, 0, 2);
      }
      default: return body(p, up, 0, x) ^ p.v;
    }
  }

  int trace(int i) { return i < 0 || i >= Math.min(20, trace.size()) ? -1 : trace.get(i); }

  int taken(int pupil, int k) {
    if (off(k, 0, 6)) return -2;
    if (!is(pupil)) return -11;
    for (int kind = get(pupil).kind; kind >= 0; kind = UP[kind]) if (kind == k) return get(pupil).kind;
    return -12;
  }

  int count(int what) {
    int[] all = {
      now.pupils.size(), rooms.size(), now.heard.size(), now.term.size(), now.book.size(), text.length(), trace.size()};
    return off(what, 0, 6) ? -2 : all[what];
  }

  int tape(int tape, int sort, int n) {
    if (off(tape, 0, 5)) return -1;
    if (off(sort, -1, 4)) return -2;
    if (sort == -1) {
      tapes[tape] = null;
      return 1;
    }
    if (n > 60) return -2;
    if (n < 0) return -14;
    Object[] made = {new byte[n], new short[n], new int[n], new long[n], new boolean[n]};
    tapes[tape] = made[sort];
    return 1;
  }

  int item(int tape, int i, long v) {
    if (off(tape, 0, 5)) return -1;
    Object row = tapes[tape];
    if (row == null) return -11;
    if (i < 0 || i >= java.lang.reflect.Array.getLength(row)) return -13;
    if (row instanceof byte[]) ((byte[]) row)[i] = (byte) v;
    if (row instanceof short[]) ((short[]) row)[i] = (short) v;
    if (row instanceof int[]) ((int[]) row)[i] = (int) v;
    if (row instanceof long[]) ((long[]) row)[i] = v;
    if (row instanceof boolean[]) ((boolean[]) row)[i] = v != 0;
    return 1;
  }

  long read(int tape, int i) {
    if (off(tape, 0, 5) || tapes[tape] == null) return NO;
    if (i < 0 || i >= java.lang.reflect.Array.getLength(tapes[tape])) return NO;
    if (tapes[tape] instanceof boolean[]) return ((boolean[]) tapes[tape])[i] ? 1 : 0;
    return java.lang.reflect.Array.getLong(tapes[tape], i);
  }

  int shift(int tape, int i, int other, int j, int n) {
    if (off(tape, 0, 5) || off(other, 0, 5)) return -1;
    if (tapes[tape] == null || tapes[other] == null) return -11;
    if (tapes[tape].getClass() != tapes[other].getClass()) return -12;
    try {
      System.arraycopy(tapes[tape], i, tapes[other], j, n);
    } catch (IndexOutOfBoundsException e) {
      return -13;
    }
    return n;
  }
}
