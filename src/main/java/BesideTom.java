/** A room with six desks and the pupils who talk in it. ../shared/DOC.md says what each call answers. */
public final class BesideTom {
  public static final int NONE = -1, BAD = -2, STATE = -3, FULL = -4;
  public static final long NO = Long.MIN_VALUE;

  private static final int MISSING = -5, FAULTY = -10, NOTHING = -11, CAST = -12, PLACE = -13, SIZE = -14;
  private static final int DESKS = 6, PUPILS = 6, COLUMNS = 3, PARTS = 4;
  private static final int CORK = 5, TOLD = 6, MOST_KIND = 6, MOST_V = 9;
  private static final int MOST_KNOWN = 9999, MOST_WEEK = 9999, MOST_WEAR = 99, MOST_NOISE = 999;
  /** Above all that a room can bring forth. */
  private static final int BOUNDLESS = 1000000000;
  private static final int MOST_WEEKS = 60, MOST_HEARD_WEEKS = 20, MOST_CHANGES = 3;
  private static final int WEEK_GOES = 0, GOES_AWAY = 1, COMES_BACK = 2, FIRST_MOVES = 3;
  private static final int TAPES = 6, MOST_ITEMS = 60;
  private static final int NO_SORT = -1, BYTES = 0, SHORTS = 1, INTS = 2, LONGS = 3, BOOLEANS = 4;
  private static final int ALL_LOOKED_AT = 100;

  private final Seating now;
  /** What a question tries out, so that what is asked leaves now alone. */
  private final Seating asked;
  private final Seating kept;
  private boolean imaged;
  private final Rooms rooms;
  private final Trace trace;
  private final int[] plan = new int[PUPILS];
  private final long[][] tapes = new long[TAPES][MOST_ITEMS];
  private final int[] sorts = {NO_SORT, NO_SORT, NO_SORT, NO_SORT, NO_SORT, NO_SORT};
  private final int[] sizes = new int[TAPES];

  public BesideTom() {
    PupilKind[] kinds = {
      new PupilKind(), new TalkerKind(), new QuietKind(), new ShortKind(),
      new TomKind(), new CorkKind(), new ToldKind()
    };
    now = new Seating(kinds);
    asked = new Seating(kinds);
    kept = new Seating(kinds);
    rooms = new Rooms();
    trace = new Trace();
  }

  // ---- pupils, rooms

  public int pupil(int kind, int v) {
    if (!within(kind, 0, MOST_KIND)) return NONE;
    if (!within(v, 0, MOST_V)) return BAD;
    if (now.many >= PUPILS) return FULL;
    int pupil = now.adds(kind, v);
    rooms.settles(now, pupil, pupil + 1);
    return pupil;
  }

  public int of(int pupil, int what) {
    if (!now.has(pupil)) return NONE;
    if (within(what, 10, 9 + DESKS)) return now.mouths[pupil * DESKS + what - 10];
    switch (what) {
      case 0: return now.kind[pupil];
      case 1: return now.v[pupil];
      case 2: return now.desk[pupil];
      case 3: return now.knows[pupil];
      case 4: return now.isAway(pupil) ? 1 : 0;
      case 5: return now.neighbours(pupil);
      case 6: return now.voice(pupil, 0);
      case 7: return now.talk(pupil, 0);
      case 8: return now.learns(pupil, now.noise(0));
      default: return NONE;
    }
  }

  public int move(int pupil, int desk) {
    if (!now.has(pupil) || !isDesk(desk)) return NONE;
    now.moves(pupil, desk);
    return now.noise(0);
  }

  public int away(int pupil, boolean is) {
    if (!now.has(pupil)) return NONE;
    int was = now.isAway(pupil) ? 1 : 0;
    now.setAway(pupil, is);
    return was;
  }

  public int knows(int pupil, int n) {
    if (!now.has(pupil)) return NONE;
    if (!within(n, 0, MOST_KNOWN)) return BAD;
    int was = now.knows[pupil];
    now.knows[pupil] = n;
    return was;
  }

  public int line(int pupil, int part, int n) {
    if (!now.has(pupil) || !within(part, 0, PARTS - 1)) return NONE;
    if (!within(n, 0, 9)) return BAD;
    if (now.kind[pupil] != TOLD) return STATE;
    int place = pupil * PARTS + part;
    int was = now.lines[place];
    now.lines[place] = n;
    return was;
  }

  public int feed(int sign) {
    return within(sign, 0, 127) ? rooms.takes(sign) : BAD;
  }

  public int room() {
    if (rooms.many >= Rooms.MOST_ROOMS) return FULL;
    int fault = rooms.reads(rooms.many, now, 0, 0);
    if (fault >= 0) {
      rooms.forgetsText();
      return FAULTY - fault;
    }
    now.wears = rooms.wears;
    now.cost = rooms.cost;
    now.held = rooms.keepsText();
    rooms.settles(now, 0, now.many);
    return now.held;
  }

  public int told(int what) {
    if (within(what, 10, 9 + DESKS)) {
      int who = now.whoHas(what - 10);
      return who < 0 ? MISSING : who;
    }
    switch (what) {
      case 0: return now.week;
      case 1: return now.wear;
      case 2: return now.wears;
      case 3: return now.cost;
      case 4: return now.noise(0);
      case 5: return now.knowsOfAll();
      case 6: return now.learnsOfAll(now.noise(0));
      default: return NONE;
    }
  }

  // ---- weeks

  public int pass(int n) {
    if (!within(n, 0, MOST_WEEKS)) return BAD;
    if (now.week + n > MOST_WEEK) return STATE;
    for (int i = 0; i < n; i++) now.weekGoes(MOST_KNOWN);
    return now.noise(0);
  }

  public int on(int n, int what) {
    if (!within(what, 0, 1) && !isOfPupil(what)) return NONE;
    if (!within(n, 0, MOST_WEEKS)) return BAD;
    if (what == 0) return now.noise(n);
    asked.becomes(now);
    for (int i = 0; i < n; i++) asked.weekGoes(BOUNDLESS);
    return what == 1 ? asked.knowsOfAll() : asked.knows[what - 10];
  }

  public int loud(int q) {
    if (!within(q, 0, MOST_NOISE)) return BAD;
    for (int n = 0; n <= MOST_WEEKS; n++) {
      if (now.noise(n) >= q) return n;
    }
    return MISSING;
  }

  // ---- plans

  public int quietest(int what) {
    if (what != 0 && !isOfPupil(what)) return NONE;
    plansFromNow();
    int worth = arrange(asked, plan, 0, 0, false, -BOUNDLESS);
    return what == 0 ? -worth : plan[what - 10];
  }

  public int wisest(int what) {
    if (what != 0 && !isOfPupil(what)) return NONE;
    plansFromNow();
    int worth = arrange(asked, plan, 0, 0, true, -BOUNDLESS);
    return what == 0 ? worth : plan[what - 10];
  }

  public int seat(int pupil) {
    if (!now.has(pupil)) return NONE;
    int least = BOUNDLESS, first = 0;
    for (int desk = 0; desk < DESKS; desk++) {
      asked.becomes(now);
      asked.moves(pupil, desk);
      int noise = asked.noise(0);
      if (noise < least) {
        least = noise;
        first = desk;
      }
    }
    return first;
  }

  public int best(int what) {
    if (what == 0) return change();
    return what == 1 ? worst() : NONE;
  }

  public int few(int q) {
    if (!within(q, 0, MOST_NOISE)) return BAD;
    if (now.noise(0) <= q) return 0;
    plansFromNow();
    for (int changes = 1; changes <= MOST_CHANGES; changes++) {
      // The same two changed twice sit as they sat, but the plan is new by it.
      if (changes == 2 && asked.many >= 2 && asked.noise(0) <= q) return changes;
      if (calmsBy(asked, changes, 1, q)) return changes;
    }
    return MISSING;
  }

  private void plansFromNow() {
    asked.becomes(now);
    asked.wear = 0;
  }

  /**
   * Answers what the best plan is worth, none being worth more than so far, and keeps that plan.
   * The plans come up in their order as rows, so that of several the first stays.
   */
  private static int arrange(Seating tried, int[] plan, int pupil, int taken, boolean wise, int soFar) {
    if (pupil >= tried.many || pupil >= PUPILS) {
      int noise = tried.noise(0);
      int worth = wise ? tried.learnsOfAll(noise) : -noise;
      if (worth > soFar) System.arraycopy(tried.desk, 0, plan, 0, PUPILS);
      return Math.max(worth, soFar);
    }
    int most = soFar;
    for (int desk = 0; desk < DESKS; desk++) {
      if (!bit(taken, desk)) {
        tried.desk[pupil] = desk;
        most = arrange(tried, plan, pupil + 1, taken | 1 << desk, wise, most);
      }
    }
    return most;
  }

  private int change() {
    int least = now.noise(0), found = MISSING;
    plansFromNow();
    for (int a = 0; a < asked.many; a++) {
      for (int b = a + 1; b < asked.many; b++) {
        asked.swaps(a, b);
        int noise = asked.noise(0);
        asked.swaps(a, b);
        if (noise < least) {
          least = noise;
          found = 10 * a + b;
        }
      }
    }
    return found;
  }

  private int worst() {
    int least = BOUNDLESS, first = MISSING;
    for (int p = 0; p < now.many; p++) {
      without(p);
      int noise = asked.noise(0);
      if (noise < least) {
        least = noise;
        first = p;
      }
    }
    return first;
  }

  private void without(int pupil) {
    asked.becomes(now);
    asked.setAway(pupil, true);
  }

  /** With the greater number of the two rising from change to change, each plan so far off comes up just once. */
  private static boolean calmsBy(Seating tried, int changes, int from, int q) {
    if (changes <= 0) return tried.noise(0) <= q;
    for (int b = from; b < tried.many; b++) {
      for (int a = 0; a < b; a++) {
        tried.swaps(a, b);
        boolean calm = calmsBy(tried, changes - 1, b + 1, q);
        tried.swaps(a, b);
        if (calm) return true;
      }
    }
    return false;
  }

  // ---- heard, odds

  public int hear(int noise, int n) {
    if (noise == -1) return now.heard.empties();
    if (!within(noise, 0, MOST_NOISE) || !within(n, 0, MOST_HEARD_WEEKS)) return BAD;
    return now.heard.takes(noise, n);
  }

  public int where(int pupil) {
    if (!now.has(pupil)) return NONE;
    int desks = 0;
    for (int desk = 0; desk < DESKS; desk++) {
      asked.becomes(now);
      asked.sits(pupil, desk);
      if (asked.isAsHeard()) desks |= 1 << desk;
    }
    return desks;
  }

  public int can(int pupil, int what) {
    if (!now.has(pupil) || !within(what, 0, 1)) return NONE;
    int many = 0, least = MISSING;
    asked.becomes(now);
    for (int v = MOST_V; v >= 0; v--) {
      asked.v[pupil] = v;
      rooms.settles(asked, pupil, pupil + 1);
      if (asked.isAsHeard()) {
        many++;
        least = v;
      }
    }
    return what == 0 ? many : least;
  }

  public long odds(int q, int part) {
    if (!within(q, 0, MOST_NOISE)) return NO;
    int calm = 0;
    for (int p = 0; p < now.many; p++) {
      without(p);
      if (asked.noise(0) <= q) calm++;
    }
    return partOf(calm, now.many, part);
  }

  public long mean(int part) {
    return partOf(now.learnsOfAll(now.noise(0)), now.many, part);
  }

  private static long partOf(int above, int below, int part) {
    if (below <= 0 || !within(part, 0, 1)) return NO;
    int common = 1;
    for (int by = 2; by <= below; by++) {
      if (above % by == 0 && below % by == 0) common = by;
    }
    return cut(part == 0 ? above : below, common);
  }

  // ---- terms, books

  public int term(int what, int n) {
    if (what == -1) return now.term.empties();
    if (!within(what, WEEK_GOES, FIRST_MOVES)) return NONE;
    if ((what == GOES_AWAY || what == COMES_BACK) && !now.has(n)) return NONE;
    if (what == FIRST_MOVES && (!now.has(0) || !isDesk(n))) return NONE;
    return now.term.takes(what, n);
  }

  public int ends(int what) {
    if (!within(what, 0, 1)) return NONE;
    asked.becomes(now);
    for (int i = 0; i < now.term.many; i++) {
      int n = now.term.second[i];
      switch (now.term.first[i]) {
        case WEEK_GOES: asked.weekGoes(BOUNDLESS); break;
        case GOES_AWAY: asked.setAway(n, true); break;
        case COMES_BACK: asked.setAway(n, false); break;
        default: asked.moves(0, n);
      }
    }
    return what == 0 ? asked.noise(0) : asked.knowsOfAll();
  }

  public int book(int pupil, int desk) {
    if (pupil == -1) return now.book.empties();
    if (!now.has(pupil) || !isDesk(desk)) return NONE;
    return now.book.takes(pupil, desk);
  }

  public int looked() {
    for (int i = 0; i < now.book.many; i++) {
      if (now.desk[now.book.first[i]] != now.book.second[i]) return i;
    }
    return MISSING;
  }

  // ---- judging, the image, acts, tapes

  public int judge(int tape, int i) {
    if (!isTape(tape)) return NONE;
    if (sorts[tape] != NO_SORT && sorts[tape] != BYTES) return CAST;
    for (int p = 0; p < now.many; p++) {
      if (i < 0 || i >= sizes[tape] - p) return ALL_LOOKED_AT + p;
      if (tapes[tape][i + p] != now.desk[p]) return p;
    }
    return MISSING;
  }

  public int image() {
    kept.becomes(now);
    imaged = true;
    return now.many;
  }

  public int undo() {
    if (!imaged) return STATE;
    now.becomes(kept);
    return now.many;
  }

  public int act(int pupil, int act, int x) {
    trace.ran = 0;
    if (!now.has(pupil) || !within(act, 0, 2)) return 0;
    trace.number = pupil;
    trace.v = now.v[pupil];
    PupilKind kind = now.kindOf(pupil);
    switch (act) {
      case 0: return kind.whispers(trace, x);
      case 1: return kind.chats(trace, x);
      default: return kind.tells(trace, x);
    }
  }

  public int trace(int i) {
    return within(i, 0, Math.min(trace.ran, Trace.MOST_KEPT) - 1) ? trace.bodies[i] : NONE;
  }

  public int taken(int pupil, int k) {
    if (!within(k, 0, MOST_KIND)) return BAD;
    if (!now.has(pupil)) return NOTHING;
    return now.kindOf(pupil).isUnder(k) ? now.kind[pupil] : CAST;
  }

  public int count(int what) {
    switch (what) {
      case 0: return now.many;
      case 1: return rooms.many;
      case 2: return now.heard.many;
      case 3: return now.term.many;
      case 4: return now.book.many;
      case 5: return rooms.signs();
      case 6: return trace.ran;
      default: return BAD;
    }
  }

  public int tape(int tape, int sort, int n) {
    if (!isTape(tape)) return NONE;
    if (!within(sort, NO_SORT, BOOLEANS)) return BAD;
    if (sort != NO_SORT && n > MOST_ITEMS) return BAD;
    if (sort != NO_SORT && n < 0) return SIZE;
    sorts[tape] = sort;
    sizes[tape] = sort == NO_SORT ? 0 : n;
    for (int i = 0; i < sizes[tape]; i++) tapes[tape][i] = 0;
    return 1;
  }

  public int item(int tape, int i, long v) {
    if (!isTape(tape)) return NONE;
    if (sorts[tape] == NO_SORT) return NOTHING;
    if (!within(i, 0, sizes[tape] - 1)) return PLACE;
    tapes[tape][i] = asItem(sorts[tape], v);
    return 1;
  }

  public long read(int tape, int i) {
    return isTape(tape) && within(i, 0, sizes[tape] - 1) ? tapes[tape][i] : NO;
  }

  public int shift(int tape, int i, int other, int j, int n) {
    if (!isTape(tape) || !isTape(other)) return NONE;
    if (sorts[tape] == NO_SORT || sorts[other] == NO_SORT) return NOTHING;
    if (sorts[tape] != sorts[other]) return CAST;
    if (!isRange(tape, i, n) || !isRange(other, j, n)) return PLACE;
    System.arraycopy(tapes[tape], i, tapes[other], j, n);
    return n;
  }

  private boolean isRange(int tape, int i, int n) {
    return n >= 0 && i >= 0 && i <= sizes[tape] && n <= sizes[tape] - i;
  }

  private static long asItem(int sort, long v) {
    switch (sort) {
      case BYTES: return (byte) v;
      case SHORTS: return (short) v;
      case INTS: return (int) v;
      case LONGS: return v;
      default: return v != 0 ? 1 : 0;
    }
  }

  private boolean isOfPupil(int what) {
    return what >= 10 && now.has(what - 10);
  }

  private static boolean isDesk(int desk) {
    return within(desk, 0, DESKS - 1);
  }

  private static boolean isTape(int tape) {
    return within(tape, 0, TAPES - 1);
  }

  private static boolean within(int n, int least, int most) {
    return n >= least && n <= most;
  }

  private static boolean bit(int bits, int i) {
    return (bits >> i & 1) != 0;
  }

  private static int cut(int n, int by) {
    return by < 1 ? n : n / by;
  }

  /** All that an image keeps. */
  private static final class Seating {
    /** By desks, as bits, those that are next. */
    private static final int[] NEXT = {10, 21, 34, 17, 42, 20};

    private final PupilKind[] kinds;
    int many, week, wear, wears = 3, cost = 4;
    int held = -1;
    private int away, corks;
    final int[] kind = new int[PUPILS], v = new int[PUPILS], desk = new int[PUPILS], knows = new int[PUPILS];
    final int[] lines = new int[PUPILS * PARTS];
    /** By pupils and desks: it hangs on nothing that a week or a move changes, so it is read from a room but once. */
    final int[] mouths = new int[PUPILS * DESKS];
    final Rows heard = new Rows(5), term = new Rows(10), book = new Rows(8);

    Seating(PupilKind[] kinds) {
      this.kinds = kinds;
    }

    void becomes(Seating other) {
      many = other.many;
      week = other.week;
      wear = other.wear;
      wears = other.wears;
      cost = other.cost;
      held = other.held;
      away = other.away;
      corks = other.corks;
      System.arraycopy(other.kind, 0, kind, 0, PUPILS);
      System.arraycopy(other.v, 0, v, 0, PUPILS);
      System.arraycopy(other.desk, 0, desk, 0, PUPILS);
      System.arraycopy(other.knows, 0, knows, 0, PUPILS);
      System.arraycopy(other.lines, 0, lines, 0, PUPILS * PARTS);
      System.arraycopy(other.mouths, 0, mouths, 0, PUPILS * DESKS);
      heard.becomes(other.heard);
      term.becomes(other.term);
      book.becomes(other.book);
    }

    /** The caller has seen that there is room for one more. */
    int adds(int newKind, int newV) {
      int p = many, free = 0;
      while (free < DESKS - 1 && whoHas(free) >= 0) free++;
      kind[p] = newKind;
      v[p] = newV;
      desk[p] = free;
      knows[p] = 0;
      for (int part = 0; part < PARTS; part++) lines[p * PARTS + part] = 0;
      setAway(p, false);
      corks = newKind == CORK ? corks | 1 << p : corks & ~(1 << p);
      many++;
      return p;
    }

    boolean has(int p) {
      return p >= 0 && p < many;
    }

    PupilKind kindOf(int p) {
      return kinds[kind[p]];
    }

    boolean isAway(int p) {
      return bit(away, p);
    }

    void setAway(int p, boolean is) {
      away = is ? away | 1 << p : away & ~(1 << p);
    }

    int whoHas(int d) {
      for (int p = 0; p < many; p++) {
        if (desk[p] == d) return p;
      }
      return -1;
    }

    void sits(int p, int d) {
      int other = whoHas(d);
      if (other >= 0) desk[other] = desk[p];
      desk[p] = d;
    }

    void moves(int p, int d) {
      sits(p, d);
      wear = 0;
    }

    void swaps(int a, int b) {
      int d = desk[a];
      desk[a] = desk[b];
      desk[b] = d;
    }

    int neighbours(int p) {
      int near = 0;
      for (int q = 0; q < many; q++) {
        if (!isAway(q) && bit(NEXT[desk[p]], desk[q])) near |= 1 << q;
      }
      return near;
    }

    int voice(int p, int weeks) {
      int near = Integer.bitCount(neighbours(p));
      int said = lines[p * PARTS + (week + weeks) % PARTS];
      return kindOf(p).voice(mouths[p * DESKS + desk[p]], near, v[p], said);
    }

    int talk(int p, int weeks) {
      if (isAway(p) || kind[p] == CORK) return 0;
      int near = neighbours(p);
      int talk = Math.max(0, voice(p, weeks) - 2 * Integer.bitCount(near & corks));
      return near == 0 ? talk : talk + cut(Math.min(MOST_WEAR, wear + weeks), wears);
    }

    /** NOISE behind so many WEEKS: those change nothing that is heard but WEAR and WEEK. */
    int noise(int weeks) {
      int noise = 0;
      for (int p = 0; p < many; p++) noise += talk(p, weeks);
      return noise;
    }

    int learns(int p, int noise) {
      if (isAway(p)) return 0;
      int near = Integer.bitCount(neighbours(p));
      return Math.max(0, kindOf(p).learning(10 - cut(noise, cost), near, desk[p] / COLUMNS, v[p]));
    }

    int learnsOfAll(int noise) {
      int all = 0;
      for (int p = 0; p < many; p++) all += learns(p, noise);
      return all;
    }

    int knowsOfAll() {
      int all = 0;
      for (int p = 0; p < many; p++) all += knows[p];
      return all;
    }

    void weekGoes(int mostKnown) {
      int noise = noise(0);
      for (int p = 0; p < many; p++) knows[p] = Math.min(mostKnown, knows[p] + learns(p, noise));
      wear = Math.min(MOST_WEAR, wear + 1);
      week++;
    }

    boolean isAsHeard() {
      for (int i = 0; i < heard.many; i++) {
        if (noise(heard.second[i]) != heard.first[i]) return false;
      }
      return true;
    }
  }

  /** Rows of two numbers, told by hand. */
  private static final class Rows {
    final int[] first, second;
    int many;

    Rows(int most) {
      first = new int[Math.max(0, most)];
      second = new int[Math.max(0, most)];
    }

    int takes(int a, int b) {
      if (many >= first.length || many >= second.length) return FULL;
      first[many] = a;
      second[many] = b;
      return ++many;
    }

    int empties() {
      many = 0;
      return 0;
    }

    void becomes(Rows other) {
      many = 0;
      for (int i = 0; i < other.many; i++) takes(other.first[i], other.second[i]);
    }
  }

  /** THE TEXT, the ROOMS that were read from it, and their reading. */
  private static final class Rooms {
    static final int MOST_ROOMS = 6;
    private static final int MOST_SIGNS = 100, MOST_CLAUSES = 10, MOST_WITHIN = 4;
    private static final int CHAT = 1, WEAR = 4, COST = 8, WORDS = 4, LETTERS = 4, END = -1;
    private static final String ALL_WORDS = "chathushwearcost";

    /** The row behind the last ROOM's is THE TEXT. */
    private final byte[][] texts = new byte[MOST_ROOMS + 1][MOST_SIGNS];
    private final int[] lengths = new int[MOST_ROOMS + 1];
    int many;

    private int row, at, sign, fault;
    private int pupil, kind, v, desk;
    int mouth, wears, cost;

    int signs() {
      return lengths[many];
    }

    int takes(int newSign) {
      if (lengths[many] >= MOST_SIGNS) return FULL;
      texts[many][lengths[many]] = (byte) newSign;
      return ++lengths[many];
    }

    void forgetsText() {
      lengths[many] = 0;
    }

    int keepsText() {
      return many < MOST_ROOMS ? many++ : FULL;
    }

    /** Reads for some of the PUPILS how they MOUTH at each DESK by the ROOM that holds. */
    void settles(Seating seating, int from, int to) {
      for (int p = from; p < to; p++) {
        for (int d = 0; d < DESKS; d++) {
          reads(seating.held, seating, p, d);
          seating.mouths[p * DESKS + d] = mouth;
        }
      }
    }

    /** Reads a text as it is for a PUPIL at a DESK: its FAULT, or -1. Below row 0 there is no ROOM. */
    int reads(int newRow, Seating seating, int newPupil, int newDesk) {
      begins(newRow, seating, newPupil, newDesk);
      if (row < 0 || row > MOST_ROOMS) return -1;
      for (int i = 0; i < MOST_CLAUSES && (i == 0 || sign == ';'); i++) {
        steps();
        clause();
      }
      if (sign != END) fails();
      mouth = Math.max(0, mouth);
      return fault;
    }

    private void begins(int newRow, Seating seating, int newPupil, int newDesk) {
      row = newRow;
      at = -1;
      fault = -1;
      pupil = newPupil;
      kind = seating.kind[newPupil];
      v = seating.v[newPupil];
      desk = newDesk;
      mouth = 3;
      wears = 3;
      cost = 4;
    }

    private void steps() {
      at++;
      sign = at < lengths[row] && at < MOST_SIGNS ? texts[row][at] : END;
    }

    private void fails() {
      if (fault < 0) fault = at;
      sign = END;
    }

    private void expects(char due) {
      if (sign == due) steps(); else fails();
    }

    private void clause() {
      int word = word();
      expects(' ');
      int n = number();
      if (word == WEAR) {
        wears = Math.max(1, n);
      } else if (word == COST) {
        cost = Math.max(1, n);
      } else {
        expects(' ');
        if (either(0)) mouth += word == CHAT ? n : -n;
      }
    }

    /** The word as a bit; 0 if there is none. */
    private int word() {
      int words = (1 << WORDS) - 1;
      for (int i = 0; i < LETTERS; i++) {
        int fit = 0;
        for (int w = 0; w < WORDS; w++) {
          if (ALL_WORDS.charAt(w * LETTERS + i) == sign) fit |= 1 << w;
        }
        words &= fit;
        if (words == 0) {
          fails();
          return 0;
        }
        steps();
      }
      return words;
    }

    private int number() {
      if (!isDigit()) {
        fails();
        return 0;
      }
      int n = sign - '0';
      steps();
      if (isDigit()) {
        n = n * 10 + sign - '0';
        steps();
      }
      return n;
    }

    private boolean isDigit() {
      return sign >= '0' && sign <= '9';
    }

    /** All is read, even where what is ahead already decides. */
    private boolean either(int depth) {
      boolean any = false, all = single(depth);
      for (int i = 0; i < MOST_SIGNS && (sign == '|' || sign == '&'); i++) {
        boolean or = sign == '|';
        steps();
        boolean next = single(depth);
        if (or) {
          any = any || all;
          all = next;
        } else {
          all = all && next;
        }
      }
      return any || all;
    }

    private boolean single(int depth) {
      int within = depth;
      boolean not = false;
      for (; sign == '!' && within < MOST_WITHIN; within++) {
        not = !not;
        steps();
      }
      if (sign == '(' && within < MOST_WITHIN) {
        steps();
        boolean holds = either(within + 1);
        expects(')');
        return holds != not;
      }
      return test() != not;
    }

    private boolean test() {
      int value = letter();
      if (value < 0) {
        fails();
        return false;
      }
      steps();
      int is = sign;
      if (is != '<' && is != '=' && is != '>') {
        fails();
        return false;
      }
      steps();
      int n = number();
      if (is == '<') return value < n;
      return is == '=' ? value == n : value > n;
    }

    private int letter() {
      switch (sign) {
        case 'p': return pupil;
        case 'd': return desk;
        case 'k': return kind;
        case 'v': return v;
        case 'r': return desk / COLUMNS;
        case 'c': return desk % COLUMNS;
        default: return -1;
      }
    }
  }

  /** Who acts, and the bodies that ran. */
  private static final class Trace {
    static final int MOST_KEPT = 20;
    final int[] bodies = new int[MOST_KEPT];
    int ran, number, v;

    void begins(int body) {
      if (ran < MOST_KEPT) bodies[ran] = body;
      ran++;
    }
  }

  /** KIND 0, and what the KINDS under it have from it; one object stands for all PUPILS of its KIND. */
  private static class PupilKind {
    boolean isUnder(int k) {
      return k == 0;
    }

    int voice(int mouth, int near, int v, int said) {
      return mouth * near;
    }

    int learning(int left, int near, int row, int v) {
      return left;
    }

    int whispers(Trace t, int x) {
      t.begins(10);
      return x + t.number;
    }

    int chats(Trace t, int x) {
      t.begins(11);
      return whispers(t, x) - t.v;
    }

    int tells(Trace t, int x) {
      t.begins(12);
      return chats(t, x) * 2;
    }
  }

  private static class TalkerKind extends PupilKind {
    boolean isUnder(int k) {
      return k == 1 || super.isUnder(k);
    }

    int voice(int mouth, int near, int v, int said) {
      return super.voice(mouth, near, v, said) + (near > 0 ? v : 0);
    }

    int chats(Trace t, int x) {
      t.begins(20);
      return super.chats(t, x) ^ 6;
    }
  }

  private static class QuietKind extends PupilKind {
    boolean isUnder(int k) {
      return k == 2 || super.isUnder(k);
    }

    int voice(int mouth, int near, int v, int said) {
      return super.voice(mouth, near, v, said) / 2;
    }

    int learning(int left, int near, int row, int v) {
      return super.learning(left, near, row, v) - near;
    }

    int whispers(Trace t, int x) {
      t.begins(30);
      return super.whispers(t, x * 3);
    }
  }

  private static class ShortKind extends PupilKind {
    boolean isUnder(int k) {
      return k == 3 || super.isUnder(k);
    }

    int learning(int left, int near, int row, int v) {
      return super.learning(left, near, row, v) - (row == 1 ? 5 : 0);
    }

    int tells(Trace t, int x) {
      t.begins(40);
      return super.tells(t, x) + chats(t, 1);
    }
  }

  private static final class TomKind extends TalkerKind {
    boolean isUnder(int k) {
      return k == 4 || super.isUnder(k);
    }

    int voice(int mouth, int near, int v, int said) {
      return super.voice(mouth, near, v, said) + mouth;
    }

    int whispers(Trace t, int x) {
      t.begins(50);
      return -super.whispers(t, x);
    }

    int chats(Trace t, int x) {
      t.begins(51);
      return super.chats(t, x + 1);
    }
  }

  private static final class CorkKind extends QuietKind {
    boolean isUnder(int k) {
      return k == CORK || super.isUnder(k);
    }

    int voice(int mouth, int near, int v, int said) {
      return 0;
    }

    int learning(int left, int near, int row, int v) {
      return super.learning(left, near, row, v) - v;
    }

    int tells(Trace t, int x) {
      t.begins(60);
      return super.tells(t, x - t.number);
    }
  }

  private static final class ToldKind extends ShortKind {
    boolean isUnder(int k) {
      return k == TOLD || super.isUnder(k);
    }

    int voice(int mouth, int near, int v, int said) {
      return super.voice(mouth, near, v, said) + said;
    }

    int chats(Trace t, int x) {
      t.begins(70);
      return super.chats(t, x) + super.whispers(t, 2);
    }

    int whispers(Trace t, int x) {
      t.begins(71);
      return super.whispers(t, x) ^ t.v;
    }
  }
}
