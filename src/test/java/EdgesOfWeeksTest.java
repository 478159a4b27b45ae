/** Each boundary that the document names in promises 11 to 18, and in the terms that they rest on. */
public final class EdgesOfWeeksTest extends Edge {
  private EdgesOfWeeksTest() {}

  public static void main(String[] args) {
    pass();
    weekGoes();
    on();
    loud();
    quietest();
    wisest();
    seat();
    change();
    worst();
    few();
    ends("EdgesOfWeeksTest");
  }

  /** Two beside each other, at WEEK 9999: NOISE is 6, and 66 by WEAR. */
  private static BesideTom atTheEnd() {
    BesideTom x = plain(2);
    weeks(x, 9999);
    return x;
  }

  private static void pass() {
    edge(11, "n WEEKS (0 .. 60): too few", () -> is(BAD, new BesideTom().pass(-1)));
    edge(11, "n WEEKS (0 .. 60): too many", () -> is(BAD, new BesideTom().pass(61)));
    edge(11, "n WEEKS (0 .. 60): far off", () -> {
      for (int far : FAR) is(BAD, new BesideTom().pass(far));
    });
    edge(11, "n WEEKS (0 .. 60): none", () -> {
      BesideTom x = plain(2);
      is(6, x.pass(0));
      is(0, x.told(0));
      is(0, x.told(1));
      is(0, x.told(5));
    });
    edge(11, "n WEEKS (0 .. 60): 60", () -> {
      BesideTom x = plain(2);
      is(6 + 40, x.pass(60));
      is(60, x.told(0));
      is(60, x.told(1));
    });
    edge(11, "NOISE then: behind the WEEKS", () -> {
      BesideTom x = plain(2);
      is(6, x.pass(2));
      is(8, x.pass(1));
    });
    edge(11, "STATE: WEEK would be above 9999", () -> {
      BesideTom x = new BesideTom();
      weeks(x, 9998);
      is(STATE, x.pass(2));
      is(STATE, x.pass(60));
      is(9998, x.told(0));
    });
    edge(11, "STATE: not yet by 9999", () -> {
      BesideTom x = new BesideTom();
      weeks(x, 9998);
      is(0, x.pass(1));
      is(9999, x.told(0));
    });
    edge(11, "STATE: at 9999", () -> {
      BesideTom x = atTheEnd();
      is(STATE, x.pass(1));
      is(9999, x.told(0));
    });
    edge(11, "STATE: at 9999 no WEEK is none too many", () -> is(72, atTheEnd().pass(0)));
    edge(11, "STATE: nothing of it goes", () -> {
      BesideTom x = plain(1);
      weeks(x, 9960);
      x.knows(0, 7);
      x.move(0, 1);
      is(STATE, x.pass(60));
      is(7, x.of(0, 3));
      is(0, x.told(1));
      is(9960, x.told(0));
    });
    edge(11, "the first that the words name: BAD ahead of STATE", () -> {
      is(BAD, atTheEnd().pass(61));
      is(BAD, atTheEnd().pass(Integer.MAX_VALUE));
    });
  }

  private static void weekGoes() {
    edge(11, "KNOWS (9999 at most): beyond", () -> {
      BesideTom x = plain(1);
      x.knows(0, 9990);
      x.pass(1);
      is(9999, x.of(0, 3));
    });
    edge(11, "KNOWS (9999 at most): just so", () -> {
      BesideTom x = plain(1);
      x.knows(0, 9989);
      x.pass(1);
      is(9999, x.of(0, 3));
    });
    edge(11, "KNOWS (9999 at most): just below", () -> {
      BesideTom x = plain(1);
      x.knows(0, 9988);
      x.pass(1);
      is(9998, x.of(0, 3));
    });
    edge(11, "KNOWS (9999 at most): so already", () -> {
      BesideTom x = plain(1);
      x.knows(0, 9999);
      x.pass(60);
      is(9999, x.of(0, 3));
    });
    edge(11, "KNOWS of all: each for itself", () -> {
      BesideTom x = of(0, 0, 3, 0);
      x.move(1, 5);
      x.knows(0, 9995);
      x.pass(1);
      is(9999, x.of(0, 3));
      is(5, x.of(1, 3));
    });
    edge(11, "WEAR (99 at most)", () -> {
      BesideTom x = plain(1);
      weeks(x, 98);
      is(98, x.told(1));
      x.pass(1);
      is(99, x.told(1));
      x.pass(1);
      is(99, x.told(1));
      x.pass(60);
      is(99, x.told(1));
    });
    edge(11, "WEEK is 1 more, beyond WEAR's 99 too", () -> {
      BesideTom x = plain(1);
      weeks(x, 180);
      is(180, x.told(0));
    });
    edge(11, "by how all is ahead of it: WEAR", () -> {
      BesideTom x = plain(2);
      room(x, "wear 1;cost 1");
      // NOISE is 6, then 8: 4 is learnt ahead, then 2.
      x.pass(1);
      is(4, x.of(0, 3));
      x.pass(1);
      is(6, x.of(0, 3));
    });
    edge(11, "by how all is ahead of it: WEEK", () -> {
      BesideTom x = of(6, 0);
      room(x, "cost 1");
      x.line(0, 1, 9);
      x.pass(1);
      is(10, x.of(0, 3));
      x.pass(1);
      is(11, x.of(0, 3));
    });
    edge(11, "who is AWAY learns nothing", () -> {
      BesideTom x = plain(2);
      x.away(0, true);
      x.pass(60);
      is(0, x.of(0, 3));
      is(600, x.of(1, 3));
    });
    edge(11, "nobody: the WEEKS go", () -> {
      BesideTom x = new BesideTom();
      is(0, x.pass(3));
      is(3, x.told(0));
      is(3, x.told(1));
    });
  }

  private static void on() {
    edge(12, "ON n WEEKS (0 .. 60): too few, BAD", () -> {
      is(BAD, plain(2).on(-1, 0));
      is(BAD, plain(2).on(-1, 1));
      is(BAD, plain(2).on(-1, 10));
    });
    edge(12, "ON n WEEKS (0 .. 60): too many, BAD", () -> {
      is(BAD, plain(2).on(61, 0));
      is(BAD, plain(2).on(61, 1));
      is(BAD, plain(2).on(61, 11));
    });
    edge(12, "ON n WEEKS (0 .. 60): far off, BAD", () -> {
      for (int far : FAR) is(BAD, plain(2).on(far, 0));
      for (int far : FAR) is(BAD, plain(2).on(far, 1));
    });
    edge(12, "ON n WEEKS (0 .. 60): none", () -> {
      BesideTom x = plain(2);
      x.knows(0, 5);
      is(6, x.on(0, 0));
      is(5, x.on(0, 1));
      is(5, x.on(0, 10));
      is(0, x.on(0, 11));
    });
    edge(12, "ON n WEEKS (0 .. 60): 60", () -> {
      BesideTom x = plain(2);
      x.move(1, 5);
      is(0, x.on(60, 0));
      is(1200, x.on(60, 1));
      is(600, x.on(60, 11));
      is(46, plain(2).on(60, 0));
    });
    edge(12, "NONE: what -1", () -> is(NONE, plain(6).on(0, -1)));
    edge(12, "NONE: what 2 .. 9", () -> {
      for (int what = 2; what <= 9; what++) is(NONE, plain(6).on(0, what));
    });
    edge(12, "NONE: KNOWS of one who has not come", () -> is(NONE, plain(2).on(0, 12)));
    edge(12, "NONE: KNOWS of PUPIL 6", () -> is(NONE, plain(6).on(0, 16)));
    edge(12, "NONE: KNOWS of nobody", () -> is(NONE, new BesideTom().on(0, 10)));
    edge(12, "NONE: what far off", () -> {
      for (int far : FAR) is(NONE, plain(6).on(0, far));
    });
    edge(12, "10 and p KNOWS of PUPIL p, the last", () -> {
      BesideTom x = plain(6);
      x.knows(5, 77);
      is(77, x.on(0, 15));
    });
    edge(12, "the first that the words name: NONE ahead of BAD", () -> {
      is(NONE, plain(2).on(61, 2));
      is(NONE, plain(2).on(-1, 12));
    });
    edge(12, "goes on: KNOWS beyond 9999, of one", () -> {
      BesideTom x = plain(1);
      x.knows(0, 9999);
      is(10009, x.on(1, 10));
      is(10599, x.on(60, 10));
    });
    edge(12, "goes on: KNOWS beyond 9999, of all", () -> {
      BesideTom x = plain(1);
      x.knows(0, 9995);
      is(10005, x.on(1, 1));
    });
    edge(12, "goes on: WEEKS beyond 9999", () -> {
      BesideTom x = atTheEnd();
      x.knows(0, 0);
      room(x, "cost 99");
      is(72, x.on(60, 0));
      is(600, x.on(60, 10));
    });
    edge(12, "goes on: WEEKS beyond 9999, modulo 4", () -> {
      BesideTom x = of(6, 0);
      for (int part = 0; part < 4; part++) x.line(0, part, part + 1);
      weeks(x, 9999);
      int[] due = {4, 1, 2, 3, 4, 1};
      for (int n = 0; n < 6; n++) is(due[n], x.on(n, 0));
    });
    edge(12, "goes on: WEAR 99 at most", () -> {
      BesideTom x = plain(2);
      weeks(x, 98);
      is(6 + 64, x.on(0, 0));
      is(6 + 66, x.on(1, 0));
      is(6 + 66, x.on(4, 0));
      is(6 + 66, x.on(60, 0));
    });
    edge(12, "who is AWAY learns nothing", () -> {
      BesideTom x = plain(1);
      x.away(0, true);
      is(0, x.on(60, 10));
    });
    edge(12, "nobody", () -> {
      is(0, new BesideTom().on(60, 0));
      is(0, new BesideTom().on(60, 1));
    });
  }

  private static void loud() {
    edge(13, "LOUD of q (0 .. 999): too small, BAD", () -> is(BAD, plain(2).loud(-1)));
    edge(13, "LOUD of q (0 .. 999): too large, BAD", () -> is(BAD, plain(2).loud(1000)));
    edge(13, "LOUD of q (0 .. 999): far off, BAD", () -> {
      for (int far : FAR) is(BAD, plain(2).loud(far));
    });
    edge(13, "LOUD of q (0 .. 999): 0", () -> {
      is(0, plain(2).loud(0));
      is(0, new BesideTom().loud(0));
    });
    edge(13, "LOUD of q (0 .. 999): 999", () -> {
      is(MISSING, plain(2).loud(999));
      BesideTom x = plain(2);
      room(x, "chat 99 p<2;chat 99 p<2;chat 99 p<2;chat 99 p<2;chat 99 p<2;chat 3 p=0");
      is(999, x.told(4));
      is(0, x.loud(999));
      room(x, "chat 99 p<2;chat 99 p<2;chat 99 p<2;chat 99 p<2;chat 99 p<2;chat 2 p=0");
      is(3, x.loud(999));
    });
    edge(13, "NOISE is q or more: just so now", () -> is(0, plain(2).loud(6)));
    edge(13, "NOISE is q or more: one more", () -> is(3, plain(2).loud(7)));
    edge(13, "NOISE is q or more: just so later", () -> is(3, plain(2).loud(8)));
    edge(13, "the fewest WEEKS (0 .. 60): 60", () -> {
      is(60, plain(2).loud(45));
      is(60, plain(2).loud(46));
    });
    edge(13, "(-5: not by then)", () -> is(MISSING, plain(2).loud(47)));
    edge(13, "(-5: not by then): it would be by 61", () -> {
      BesideTom x = plain(2);
      room(x, "wear 61");
      is(MISSING, x.loud(7));
      room(x, "wear 60");
      is(60, x.loud(7));
    });
    edge(13, "(-5: not by then): nobody", () -> is(MISSING, new BesideTom().loud(1)));
    edge(13, "(-5: not by then): WEAR 99 at most", () -> {
      BesideTom x = plain(2);
      weeks(x, 90);
      is(9, x.loud(72));
      is(MISSING, x.loud(73));
    });
    edge(13, "the fewest, though it is quieter then again", () -> {
      BesideTom x = of(6, 0);
      x.line(0, 2, 5);
      is(2, x.loud(5));
      is(2, x.loud(1));
      is(0, x.loud(0));
      x.pass(3);
      is(3, x.loud(5));
    });
    edge(13, "goes on: WEEKS beyond 9999", () -> {
      BesideTom x = of(6, 0);
      x.line(0, 2, 5);
      weeks(x, 9999);
      is(3, x.loud(5));
    });
  }

  private static void quietest() {
    edge(14, "NONE: what -1", () -> is(NONE, plain(2).quietest(-1)));
    edge(14, "NONE: what 1 .. 9", () -> {
      for (int what = 1; what <= 9; what++) is(NONE, plain(2).quietest(what));
    });
    edge(14, "NONE: DESK of one who has not come", () -> is(NONE, plain(2).quietest(12)));
    edge(14, "NONE: DESK of PUPIL 6", () -> is(NONE, plain(6).quietest(16)));
    edge(14, "NONE: DESK of nobody", () -> is(NONE, new BesideTom().quietest(10)));
    edge(14, "NONE: what far off", () -> {
      for (int far : FAR) is(NONE, plain(2).quietest(far));
    });
    edge(14, "nobody: NOISE 0", () -> is(0, new BesideTom().quietest(0)));
    edge(14, "of several the first as a row by PUPILS: one alone", () -> {
      BesideTom x = plain(1);
      x.move(0, 5);
      is(0, x.quietest(10));
    });
    edge(14, "of several the first as a row by PUPILS: two", () -> {
      BesideTom x = plain(2);
      is(0, x.quietest(10));
      is(2, x.quietest(11));
    });
    edge(14, "of several the first as a row by PUPILS: six, all alike", () -> {
      BesideTom x = plain(6);
      x.move(0, 5);
      for (int p = 0; p < 6; p++) is(p, x.quietest(10 + p));
    });
    edge(14, "of several the first as a row by PUPILS: the last of 720", () -> {
      BesideTom x = plain(6);
      room(x, "chat 9 !(p=0&d=5|p=1&d=4|p=2&d=3)&!(p=3&d=2|p=4&d=1|p=5&d=0)");
      for (int p = 0; p < 6; p++) is(5 - p, x.quietest(10 + p));
      is(42, x.quietest(0));
    });
    edge(14, "no two one: six have six", () -> {
      BesideTom x = plain(6);
      // All would sit in front.
      room(x, "chat 9 r=1");
      int all = 0;
      for (int p = 0; p < 6; p++) all |= 1 << x.quietest(10 + p);
      is(63, all);
    });
    edge(14, "WEAR is 0 by it, by the plan that is, too", () -> {
      BesideTom x = plain(6);
      weeks(x, 99);
      is(42, x.quietest(0));
    });
    edge(14, "WEAR is 0 by it, not 1", () -> {
      BesideTom x = still(2);
      x.pass(1);
      is(0, x.quietest(0));
      is(0, x.quietest(10));
      is(1, x.quietest(11));
    });
    edge(14, "goes on from how all is: v, CORKS, the LINE of this WEEK", () -> {
      is(6 * 9 + 42, of(1, 9, 1, 9, 1, 9, 1, 9, 1, 9, 1, 9).quietest(0));
      // Each of the two who talk has two CORKS for NEIGHBOURS: 6 less 4.
      is(4, of(0, 0, 5, 0, 0, 0, 5, 0, 5, 0, 5, 0).quietest(0));
      BesideTom x = of(6, 0);
      x.line(0, 0, 2);
      x.line(0, 1, 7);
      is(2, x.quietest(0));
    });
    edge(14, "one who is AWAY has a DESK too", () -> {
      BesideTom x = plain(2);
      x.away(0, true);
      is(0, x.quietest(10));
      is(1, x.quietest(11));
    });
  }

  private static void wisest() {
    edge(15, "NONE: what -1", () -> is(NONE, plain(2).wisest(-1)));
    edge(15, "NONE: what 1 .. 9", () -> {
      for (int what = 1; what <= 9; what++) is(NONE, plain(2).wisest(what));
    });
    edge(15, "NONE: DESK of one who has not come", () -> is(NONE, plain(2).wisest(12)));
    edge(15, "NONE: DESK of PUPIL 6", () -> is(NONE, plain(6).wisest(16)));
    edge(15, "NONE: DESK of nobody", () -> is(NONE, new BesideTom().wisest(10)));
    edge(15, "NONE: what far off", () -> {
      for (int far : FAR) is(NONE, plain(2).wisest(far));
    });
    edge(15, "nobody: 0", () -> is(0, new BesideTom().wisest(0)));
    edge(15, "of several the first likewise: one alone", () -> {
      BesideTom x = plain(1);
      x.move(0, 5);
      is(0, x.wisest(10));
    });
    edge(15, "of several the first likewise: two", () -> {
      BesideTom x = of(3, 0, 3, 0);
      is(0, x.wisest(10));
      is(2, x.wisest(11));
    });
    edge(15, "of several the first likewise: all alike, as LEARNS is cut", () -> {
      BesideTom x = plain(6);
      x.move(0, 5);
      room(x, "cost 99");
      is(60, x.wisest(0));
      for (int p = 0; p < 6; p++) is(p, x.wisest(10 + p));
    });
    edge(15, "of several the first likewise: nobody learns anything", () -> {
      BesideTom x = plain(6);
      room(x, "chat 9 p<9;cost 1");
      is(0, x.wisest(0));
      for (int p = 0; p < 6; p++) is(p, x.wisest(10 + p));
    });
    edge(15, "WEAR is 0 by it", () -> {
      BesideTom x = plain(6);
      room(x, "cost 20");
      weeks(x, 99);
      is(48, x.wisest(0));
    });
    edge(15, "WEAR is 0 by it, not 1", () -> {
      BesideTom x = still(2);
      x.pass(1);
      is(20, x.wisest(0));
      is(0, x.wisest(10));
      is(1, x.wisest(11));
    });
    edge(15, "one who is AWAY has a DESK, and learns nothing", () -> {
      BesideTom x = plain(2);
      x.away(0, true);
      is(10, x.wisest(0));
      is(0, x.wisest(10));
      is(1, x.wisest(11));
    });
  }

  private static void seat() {
    edge(16, "NONE: PUPIL -1", () -> is(NONE, plain(6).seat(-1)));
    edge(16, "NONE: one who has not come", () -> is(NONE, plain(2).seat(2)));
    edge(16, "NONE: PUPIL 6", () -> is(NONE, plain(6).seat(6)));
    edge(16, "NONE: nobody", () -> is(NONE, new BesideTom().seat(0)));
    edge(16, "NONE: PUPIL far off", () -> {
      for (int far : FAR) is(NONE, plain(6).seat(far));
    });
    edge(16, "(of several the first): DESK 0, though it has another", () -> {
      BesideTom x = plain(1);
      x.move(0, 5);
      is(0, x.seat(0));
    });
    edge(16, "(of several the first): the first that is apart", () -> {
      is(3, plain(2).seat(0));
      is(2, plain(2).seat(1));
    });
    edge(16, "DESK 5, the last", () -> {
      BesideTom x = plain(1);
      x.pupil(4, 0);
      room(x, "hush 3 p=1&d=5");
      is(5, x.seat(1));
    });
    edge(16, "where it sits already: WEAR is 0 there too", () -> {
      BesideTom x = plain(6);
      room(x, "hush 3 p=2&d=2");
      weeks(x, 99);
      is(2, x.seat(2));
      BesideTom y = plain(6);
      weeks(y, 99);
      is(0, y.seat(0));
    });
    edge(16, "WEAR is 0 by the MOVE, not 1: all are alike", () -> {
      BesideTom x = still(2);
      x.pass(1);
      is(0, x.seat(0));
      is(0, x.seat(1));
    });
    edge(16, "to the DESK of another, that one gets its own", () -> {
      BesideTom x = plain(6);
      room(x, "hush 3 p=0&d=0|p=5&d=0");
      is(0, x.seat(0));
      is(0, x.seat(5));
    });
    edge(16, "who is AWAY: of several the first", () -> {
      BesideTom x = plain(2);
      x.away(1, true);
      is(0, x.seat(1));
    });
  }

  private static void change() {
    edge(17, "NONE: what -1", () -> is(NONE, plain(2).best(-1)));
    edge(17, "NONE: what 2", () -> is(NONE, plain(2).best(2)));
    edge(17, "NONE: what far off", () -> {
      for (int far : FAR) is(NONE, plain(2).best(far));
    });
    edge(17, "CHANGE: if less than it is, not as much (-5: none)", () -> is(MISSING, plain(2).best(0)));
    edge(17, "CHANGE: if less than it is, 1 less", () -> {
      BesideTom x = plain(2);
      room(x, "chat 1 p=0&d=0");
      is(1, x.best(0));
    });
    edge(17, "CHANGE: -5: none, for more", () -> {
      BesideTom x = plain(2);
      room(x, "chat 1 p=0&d=1");
      is(MISSING, x.best(0));
    });
    edge(17, "CHANGE: -5: none, nobody and one alone", () -> {
      is(MISSING, new BesideTom().best(0));
      BesideTom x = of(4, 9);
      x.pass(60);
      is(MISSING, x.best(0));
    });
    edge(17, "CHANGE: of several the first", () -> {
      BesideTom x = plain(6);
      x.pass(3);
      is(1, x.best(0));
      // Neither 0 nor 1 had best be at DESK 1; with whomever else 1 changes, it is as quiet.
      BesideTom y = plain(6);
      room(y, "chat 9 p=1&d=1|p=0&d=1");
      is(12, y.best(0));
    });
    edge(17, "CHANGE: the last two", () -> {
      BesideTom x = plain(6);
      room(x, "chat 1 p=4&d=4|p=5&d=5");
      is(45, x.best(0));
    });
    edge(17, "CHANGE: the lesser number first", () -> {
      BesideTom x = plain(2);
      x.move(0, 5);
      x.move(1, 4);
      room(x, "chat 1 p=1&d=4");
      is(1, x.best(0));
    });
    edge(17, "CHANGE: WEAR is 0 by it, not 1", () -> {
      BesideTom x = still(2);
      is(MISSING, x.best(0));
      x.pass(1);
      is(1, x.best(0));
    });
    edge(17, "CHANGE: WEAR is 0 by it", () -> {
      BesideTom x = plain(2);
      x.pass(2);
      is(MISSING, x.best(0));
      x.pass(1);
      is(1, x.best(0));
    });
  }

  private static void worst() {
    edge(17, "WORST: -5: nobody is there", () -> is(MISSING, new BesideTom().best(1)));
    edge(17, "WORST: one alone", () -> is(0, plain(1).best(1)));
    edge(17, "WORST: of several the first", () -> {
      is(0, plain(2).best(1));
      is(1, plain(6).best(1));
    });
    edge(17, "WORST: the last", () -> {
      BesideTom x = plain(6);
      room(x, "chat 99 p=5");
      is(5, x.best(1));
    });
    edge(17, "WORST: of all who are AWAY the first", () -> {
      BesideTom x = plain(3);
      for (int p = 0; p < 3; p++) x.away(p, true);
      is(0, x.best(1));
    });
    edge(17, "WORST: without one who is AWAY it is as it is", () -> {
      BesideTom x = plain(3);
      x.away(0, true);
      is(1, x.best(1));
    });
    edge(17, "WORST: NOISE now, not a WEEK on", () -> {
      BesideTom x = still(3);
      is(0, x.best(1));
      x.pass(1);
      is(1, x.best(1));
    });
    edge(17, "WORST: WEAR stays", () -> {
      BesideTom x = of(2, 0, 0, 0, 5, 0);
      x.pass(60);
      // 1 and 20, 4 and 20; without 0: 1 and 20; without 1: 0; without 2: 1 and 20, 3 and 20.
      is(1, x.best(1));
    });
  }

  /** One after the other has to go one DESK on: how many CHANGES that is. */
  private static BesideTom turns(int many) {
    BesideTom x = plain(many);
    StringBuilder text = new StringBuilder("chat 9 ");
    for (int p = 0; p < many; p++) {
      if (p > 0) text.append('|');
      text.append("p=").append(p).append("&!d=").append((p + 1) % many);
    }
    room(x, text.toString());
    return x;
  }

  private static void few() {
    edge(18, "FEW of q (0 .. 999): too small, BAD", () -> is(BAD, plain(2).few(-1)));
    edge(18, "FEW of q (0 .. 999): too large, BAD", () -> is(BAD, plain(2).few(1000)));
    edge(18, "FEW of q (0 .. 999): far off, BAD", () -> {
      for (int far : FAR) is(BAD, plain(2).few(far));
    });
    edge(18, "FEW of q (0 .. 999): 0", () -> {
      is(0, new BesideTom().few(0));
      is(0, plain(1).few(0));
      is(MISSING, plain(2).few(0));
    });
    edge(18, "FEW of q (0 .. 999): 999", () -> is(0, plain(6).few(999)));
    edge(18, "(0: it is now): just so", () -> is(0, plain(2).few(6)));
    edge(18, "(0: it is now): WEAR as it is", () -> {
      BesideTom x = plain(2);
      x.pass(3);
      is(0, x.few(8));
      is(1, x.few(7));
    });
    edge(18, "q or less: one CHANGE, just so", () -> {
      BesideTom x = turns(2);
      is(24, x.told(4));
      is(1, x.few(23));
      is(1, x.few(6));
    });
    edge(18, "(-5: no so many): no number is", () -> is(MISSING, turns(2).few(5)));
    edge(18, "how few (0 .. 3): two", () -> {
      is(2, turns(3).few(12));
      is(MISSING, turns(3).few(11));
    });
    edge(18, "how few (0 .. 3): three", () -> {
      int quiet = plain(4).told(4);
      is(3, turns(4).few(quiet));
      is(MISSING, turns(4).few(quiet - 1));
    });
    edge(18, "(-5: no so many): it would be by four", () -> {
      BesideTom x = turns(5);
      int quiet = plain(5).told(4);
      is(quiet, x.quietest(0));
      is(MISSING, x.few(quiet));
    });
    edge(18, "one behind the other, of any two PUPILS: the same two twice", () -> {
      BesideTom x = plain(2);
      room(x, "chat 50 p=0&d=1");
      x.pass(3);
      is(2, x.few(7));
      is(2, x.few(6));
      is(MISSING, x.few(5));
    });
    edge(18, "one behind the other, of any two PUPILS: one alone has no two", () -> {
      BesideTom x = of(4, 0);
      x.pass(60);
      is(0, x.few(3));
      is(MISSING, x.few(2));
    });
    edge(18, "NOISE now, and by WEAR 0, not 1", () -> {
      BesideTom x = still(2);
      is(0, x.few(0));
      x.pass(1);
      is(0, x.few(2));
      is(1, x.few(1));
      is(1, x.few(0));
    });
    edge(18, "the same two twice: by WEAR 0, not 1", () -> {
      BesideTom x = plain(2);
      room(x, "hush 3 p<9;chat 50 p=0&d=1;wear 1");
      x.pass(1);
      is(2, x.few(1));
      is(2, x.few(0));
    });
    edge(18, "of any two PUPILS: of the last two", () -> {
      BesideTom x = plain(6);
      room(x, "chat 9 p=4&!d=5|p=5&!d=4");
      is(1, x.few(42));
    });
  }
}
