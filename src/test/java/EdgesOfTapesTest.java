/** Each boundary that the document names in promises 28 to 38, and in the terms that they rest on. */
public final class EdgesOfTapesTest extends Edge {
  private static final int[] MOST = {Byte.MAX_VALUE, Short.MAX_VALUE};

  private EdgesOfTapesTest() {}

  public static void main(String[] args) {
    judge();
    image();
    undo();
    undoOfAll();
    act();
    trace();
    taken();
    count();
    tape();
    item();
    itemBySort();
    read();
    shift();
    shiftRefused();
    ends("EdgesOfTapesTest");
  }

  /** A TAPE 0 with such a row of bytes. */
  private static BesideTom told(int many, int... desks) {
    BesideTom x = plain(many);
    x.tape(0, 0, desks.length);
    for (int i = 0; i < desks.length; i++) x.item(0, i, desks[i]);
    return x;
  }

  private static void judge() {
    edge(28, "NONE: TAPE -1", () -> is(NONE, plain(2).judge(-1, 0)));
    edge(28, "NONE: TAPE 6", () -> is(NONE, plain(2).judge(6, 0)));
    edge(28, "NONE: TAPE far off", () -> {
      for (int far : FAR) is(NONE, plain(2).judge(far, 0));
    });
    edge(28, "NONE: nobody is there", () -> is(NONE, new BesideTom().judge(6, 0)));
    edge(28, "TAPE 5", () -> {
      BesideTom x = plain(1);
      x.tape(5, 0, 1);
      is(MISSING, x.judge(5, 0));
    });
    edge(28, "CAST: it is no row of bytes", () -> {
      for (int sort = 1; sort <= 4; sort++) {
        BesideTom x = plain(1);
        x.tape(0, sort, 6);
        is(CAST, x.judge(0, 0));
      }
    });
    edge(28, "CAST: an empty row of another sort, a place below 0", () -> {
      BesideTom x = plain(1);
      x.tape(0, 2, 0);
      is(CAST, x.judge(0, 0));
      is(CAST, x.judge(0, -1));
    });
    edge(28, "CAST: nobody is there", () -> {
      BesideTom x = new BesideTom();
      x.tape(0, 2, 1);
      is(CAST, x.judge(0, 0));
    });
    edge(28, "100 and how many: the TAPE holds nothing", () -> is(100, plain(1).judge(0, 0)));
    edge(28, "100 and how many: the TAPE holds nothing any more", () -> {
      BesideTom x = told(1, 0, 0);
      x.tape(0, -1, 0);
      is(100, x.judge(0, 0));
    });
    edge(28, "100 and how many: the place is below 0", () -> is(100, told(1, 0, 0, 0).judge(0, -1)));
    edge(28, "100 and how many: the place is far off", () -> {
      for (int far : FAR) is(100, told(3, 0, 1, 2).judge(0, far));
    });
    edge(28, "100 and how many: the row ends ahead of that, at once", () -> {
      is(100, told(1).judge(0, 0));
      is(100, told(1, 0, 0).judge(0, 2));
      is(100, told(1, 0, 0).judge(0, 3));
    });
    edge(28, "100 and how many: the row ends ahead of that, one short", () -> {
      is(102, told(3, 0, 1).judge(0, 0));
      is(102, told(3, 9, 0, 1).judge(0, 1));
      is(105, told(6, 0, 1, 2, 3, 4).judge(0, 0));
    });
    edge(28, "-5: none: the row ends just behind", () -> {
      is(MISSING, told(3, 0, 1, 2).judge(0, 0));
      is(MISSING, told(3, 9, 9, 0, 1, 2).judge(0, 2));
      is(MISSING, told(6, 0, 1, 2, 3, 4, 5).judge(0, 0));
    });
    edge(28, "-5: none: the last of 60 places", () -> {
      BesideTom x = plain(1);
      x.tape(0, 0, 60);
      is(MISSING, x.judge(0, 59));
      is(100, x.judge(0, 60));
    });
    edge(28, "-5: there is none to look at", () -> {
      is(MISSING, told(0, 1, 2).judge(0, 0));
      is(MISSING, told(0, 1, 2).judge(0, 2));
    });
    edge(28, "-5: there is none to look at, nor is there a place", () -> {
      is(MISSING, new BesideTom().judge(0, 0));
      is(MISSING, told(0).judge(0, 0));
      is(MISSING, told(0, 1).judge(0, -1));
      is(MISSING, told(0, 1).judge(0, 9));
    });
    edge(28, "the first that is otherwise: the first", () -> is(0, told(3, 1, 1, 1).judge(0, 0)));
    edge(28, "the first that is otherwise: the last", () -> is(2, told(3, 0, 1, 1).judge(0, 0)));
    edge(28, "the first that is otherwise: of two", () -> is(1, told(3, 0, 2, 1).judge(0, 0)));
    edge(28, "the first that is otherwise: ahead of the row's end", () -> is(1, told(3, 0, 0).judge(0, 0)));
    edge(28, "the first that is otherwise: bytes that are no DESK", () -> {
      is(0, told(1, -1).judge(0, 0));
      is(0, told(1, 6).judge(0, 0));
      is(0, told(1, -128).judge(0, 0));
      is(MISSING, told(1, 256).judge(0, 0));
    });
    edge(28, "one who is AWAY is looked at too", () -> {
      BesideTom x = told(2, 1, 1);
      x.away(0, true);
      is(0, x.judge(0, 0));
    });
  }

  private static void image() {
    edge(29, "how many PUPILS there are: nobody", () -> is(0, new BesideTom().image()));
    edge(29, "how many PUPILS there are: six", () -> is(6, plain(6).image()));
    edge(29, "how many PUPILS there are: who is AWAY too", () -> {
      BesideTom x = plain(2);
      x.away(0, true);
      is(2, x.image());
    });
    edge(29, "the newer one alone is kept", () -> {
      BesideTom x = plain(1);
      x.image();
      x.pupil(0, 0);
      is(2, x.image());
      x.pupil(0, 0);
      is(2, x.undo());
      is(2, x.count(0));
    });
    edge(29, "what comes behind it does not reach it", () -> {
      BesideTom x = of(6, 0);
      x.image();
      x.move(0, 5);
      x.knows(0, 9);
      x.away(0, true);
      x.line(0, 0, 9);
      x.hear(1, 1);
      x.term(0, 0);
      x.book(0, 5);
      x.pass(1);
      x.undo();
      is(0, x.of(0, 2));
      is(0, x.of(0, 3));
      is(0, x.of(0, 4));
      is(0, x.line(0, 0, 0));
      for (int what = 2; what <= 4; what++) is(0, x.count(what));
      is(0, x.told(0));
      is(0, x.told(1));
    });
  }

  private static void undo() {
    edge(30, "STATE: there is none", () -> {
      is(STATE, new BesideTom().undo());
      is(STATE, plain(6).undo());
    });
    edge(30, "STATE: all stays as it is", () -> {
      BesideTom x = plain(2);
      x.pass(2);
      x.undo();
      is(2, x.count(0));
      is(2, x.told(0));
    });
    edge(30, "how many PUPILS: nobody", () -> {
      BesideTom x = new BesideTom();
      x.image();
      x.pupil(0, 0);
      is(0, x.undo());
      is(0, x.count(0));
      is(NONE, x.of(0, 0));
      is(MISSING, x.told(10));
    });
    edge(30, "how many PUPILS: six", () -> {
      BesideTom x = plain(6);
      x.image();
      is(6, x.undo());
      is(FULL, x.pupil(0, 0));
    });
    edge(30, "THE IMAGE stays: once more", () -> {
      BesideTom x = plain(2);
      x.image();
      for (int i = 0; i < 3; i++) {
        x.move(0, 5);
        x.knows(0, 5);
        is(2, x.undo());
        is(0, x.of(0, 2));
        is(0, x.of(0, 3));
      }
    });
    edge(30, "at once: all is as it is", () -> {
      BesideTom x = plain(2);
      x.pass(4);
      x.image();
      is(2, x.undo());
      is(4, x.told(0));
      is(4, x.told(1));
    });
    edge(30, "who came behind it is gone, a new one is new", () -> {
      BesideTom x = plain(1);
      x.image();
      x.pupil(6, 5);
      x.line(1, 0, 9);
      x.knows(1, 9);
      x.away(1, true);
      x.undo();
      is(NONE, x.of(1, 0));
      is(1, x.pupil(6, 4));
      is(4, x.of(1, 1));
      is(0, x.of(1, 3));
      is(0, x.of(1, 4));
      is(0, x.line(1, 0, 0));
    });
    edge(30, "FULL rows are as they were", () -> {
      BesideTom x = plain(1);
      for (int i = 0; i < 5; i++) x.hear(i, 0);
      for (int i = 0; i < 10; i++) x.term(0, 0);
      for (int i = 0; i < 8; i++) x.book(0, 0);
      x.image();
      x.hear(-1, 0);
      x.term(-1, 0);
      x.book(-1, 0);
      x.undo();
      is(FULL, x.hear(0, 0));
      is(FULL, x.term(0, 0));
      is(FULL, x.book(0, 0));
    });
    edge(30, "HEARD, the TERM, the BOOK: as many others in their place", () -> {
      BesideTom x = plain(2);
      x.hear(6, 0);
      x.term(3, 5);
      x.term(0, 0);
      x.book(0, 0);
      x.book(1, 5);
      x.image();
      x.hear(-1, 0);
      x.hear(0, 3);
      x.term(-1, 0);
      x.term(0, 0);
      x.term(1, 0);
      x.book(-1, 0);
      x.book(1, 1);
      x.book(0, 0);
      x.undo();
      is(0b010111, x.where(0));
      is(0, x.ends(0));
      is(20, x.ends(1));
      is(1, x.looked());
    });
    edge(30, "empty rows are as they were", () -> {
      BesideTom x = plain(1);
      x.image();
      x.hear(1, 0);
      x.term(0, 0);
      x.book(0, 1);
      x.undo();
      is(63, x.where(0));
      is(0, x.ends(1));
      is(MISSING, x.looked());
    });
  }

  private static void undoOfAll() {
    edge(30, "PUPILS with all that is theirs", () -> {
      BesideTom x = of(6, 7, 1, 8);
      x.move(0, 4);
      x.knows(0, 5);
      x.away(1, true);
      x.line(0, 3, 6);
      x.image();
      x.move(0, 0);
      x.knows(0, 0);
      x.away(1, false);
      x.line(0, 3, 1);
      x.undo();
      is(6, x.of(0, 0));
      is(7, x.of(0, 1));
      is(4, x.of(0, 2));
      is(5, x.of(0, 3));
      is(1, x.of(1, 4));
      is(6, x.line(0, 3, 0));
    });
    edge(30, "PUPILS with all that is theirs: their KINDS", () -> {
      BesideTom x = of(0, 0, 5, 0);
      x.image();
      x.pupil(5, 0);
      x.undo();
      is(1, x.of(0, 7));
      is(0, x.of(1, 7));
      x.pupil(4, 0);
      is(4, x.of(2, 0));
      is(1, x.of(0, 7));
      is(4, x.of(2, 7));
    });
    edge(30, "WEAR, WEEK, the greatest", () -> {
      BesideTom x = plain(1);
      weeks(x, 9999);
      x.image();
      x.move(0, 1);
      x.undo();
      is(9999, x.told(0));
      is(99, x.told(1));
      is(STATE, x.pass(1));
    });
    edge(30, "WEEK is less again: as many WEEKS may go", () -> {
      BesideTom x = plain(1);
      x.image();
      weeks(x, 9999);
      x.undo();
      is(0, x.pass(60));
      is(60, x.told(0));
    });
    edge(30, "which ROOM holds: none", () -> {
      BesideTom x = plain(1);
      x.image();
      room(x, "chat 1 p=0;wear 8;cost 9");
      x.undo();
      is(3, x.of(0, 10));
      is(3, x.told(2));
      is(4, x.told(3));
      is(1, x.count(1));
    });
    edge(30, "which ROOM holds: an older one", () -> {
      BesideTom x = plain(1);
      room(x, "chat 1 p=0;wear 8;cost 9");
      x.image();
      room(x, "chat 2 p=0");
      x.undo();
      is(4, x.of(0, 10));
      is(8, x.told(2));
      is(9, x.told(3));
      x.pupil(0, 0);
      is(3, x.of(1, 10));
    });
    edge(30, "which ROOM holds: THE ROOMS stay, six are FULL", () -> {
      BesideTom x = plain(1);
      x.image();
      for (int i = 0; i < 6; i++) room(x, "wear 9");
      x.undo();
      is(6, x.count(1));
      is(FULL, room(x, "wear 8"));
      is(3, x.told(2));
    });
    edge(30, "which ROOM holds: the next ROOM has the next number", () -> {
      BesideTom x = plain(1);
      x.image();
      room(x, "wear 9");
      x.undo();
      is(1, room(x, "wear 8"));
      is(8, x.told(2));
    });
    edge(30, "THE TEXT, TAPES and THE TRACE are not in it", () -> {
      BesideTom x = plain(1);
      x.image();
      feed(x, "wear");
      x.tape(5, 3, 1);
      x.item(5, 0, 7);
      x.act(0, 2, 0);
      x.undo();
      is(4, x.count(5));
      is(7, x.read(5, 0));
      is(3, x.count(6));
      is(10, x.trace(2));
    });
    edge(30, "the BOOK and the TERM may name who had come by then", () -> {
      BesideTom x = plain(1);
      x.image();
      x.pupil(0, 0);
      x.book(1, 5);
      x.term(1, 1);
      x.undo();
      is(MISSING, x.looked());
      is(0, x.ends(0));
      is(NONE, x.book(1, 5));
      is(NONE, x.term(1, 1));
    });
  }

  private static void act() {
    edge(31, "0: no such PUPIL, -1", () -> is(0, plain(6).act(-1, 0, 5)));
    edge(31, "0: no such PUPIL, who has not come", () -> is(0, plain(2).act(2, 0, 5)));
    edge(31, "0: no such PUPIL, 6", () -> is(0, plain(6).act(6, 0, 5)));
    edge(31, "0: no such PUPIL, far off", () -> {
      for (int far : FAR) is(0, plain(6).act(far, 0, 5));
    });
    edge(31, "0: no such act, -1", () -> is(0, plain(2).act(0, -1, 5)));
    edge(31, "0: no such act, 3", () -> is(0, plain(2).act(0, 3, 5)));
    edge(31, "0: no such act, far off", () -> {
      for (int far : FAR) is(0, plain(2).act(0, far, 5));
    });
    edge(31, "and no TRACE then: no such PUPIL", () -> {
      BesideTom x = plain(1);
      x.act(0, 2, 5);
      x.act(1, 2, 5);
      is(NONE, x.trace(0));
      is(0, x.count(6));
    });
    edge(31, "and no TRACE then: no such act", () -> {
      BesideTom x = plain(1);
      x.act(0, 2, 5);
      x.act(0, 3, 5);
      is(NONE, x.trace(0));
      is(0, x.count(6));
    });
    edge(31, "with x (wrapping): +", () -> {
      BesideTom x = plain(2);
      is(Integer.MIN_VALUE, x.act(1, 0, Integer.MAX_VALUE));
    });
    edge(31, "with x (wrapping): -, by v", () -> is(Integer.MAX_VALUE, of(0, 1).act(0, 1, Integer.MIN_VALUE)));
    edge(31, "with x (wrapping): - x", () -> is(Integer.MIN_VALUE, of(4, 0).act(0, 0, Integer.MIN_VALUE)));
    edge(31, "with x (wrapping): * 2", () -> {
      is(-2, plain(1).act(0, 2, Integer.MAX_VALUE));
      is(0, plain(1).act(0, 2, Integer.MIN_VALUE));
    });
    edge(31, "with x (wrapping): * 3", () -> {
      is(Integer.MAX_VALUE - 2, of(2, 0).act(0, 0, Integer.MAX_VALUE));
      is(Integer.MIN_VALUE, of(2, 0).act(0, 0, Integer.MIN_VALUE));
    });
    edge(31, "with x (wrapping): x + 1", () -> {
      // 51: x + 1 wraps to the least, 50: less it is the least again, 20: ^ 6.
      is(Integer.MIN_VALUE ^ 6, of(4, 0).act(0, 1, Integer.MAX_VALUE));
    });
    edge(31, "with x (wrapping): x - i", () -> {
      BesideTom x = of(0, 0, 5, 0);
      // 60: x less 1 is the greatest; 30: times 3; 10: 1 more; 12: twice.
      is(2 * (Integer.MAX_VALUE * 3 + 1), x.act(1, 2, Integer.MIN_VALUE));
    });
    edge(31, "with x (wrapping): the sum of two", () -> {
      // 71 and 10 leave x, 11 too, 70: 2 more, 12: twice, 40: and chats(1), 1 and 2.
      is(2 * (Integer.MAX_VALUE + 2) + 3, of(6, 0).act(0, 2, Integer.MAX_VALUE));
    });
    edge(31, "i its number: 0 and 5", () -> {
      is(7, plain(6).act(0, 0, 7));
      is(12, plain(6).act(5, 0, 7));
    });
    edge(31, "if that has none, of the next KIND above that has one", () -> {
      int[][] first = {{10, 11, 12}, {10, 20, 12}, {30, 11, 12}, {10, 11, 40}, {50, 51, 12}, {30, 11, 60}, {71, 70, 40}};
      for (int kind = 0; kind < 7; kind++) {
        for (int act = 0; act < 3; act++) {
          BesideTom x = of(kind, 0);
          x.act(0, act, 1);
          is(first[kind][act], x.trace(0));
        }
      }
    });
    edge(31, "super.whispers(..) of a TOLD one: SHORT has none", () -> {
      BesideTom x = of(6, 0);
      x.act(0, 0, 1);
      is(71, x.trace(0));
      is(10, x.trace(1));
      is(2, x.count(6));
    });
    edge(31, "of one who is AWAY", () -> {
      BesideTom x = plain(1);
      x.away(0, true);
      is(9, x.act(0, 0, 9));
    });
  }

  private static void trace() {
    edge(32, "NONE: no act as yet", () -> is(NONE, plain(1).trace(0)));
    edge(32, "NONE: -1", () -> {
      BesideTom x = plain(1);
      x.act(0, 0, 0);
      is(NONE, x.trace(-1));
    });
    edge(32, "NONE: behind the last", () -> {
      BesideTom x = plain(1);
      x.act(0, 2, 0);
      is(10, x.trace(2));
      is(NONE, x.trace(3));
    });
    edge(32, "NONE: far off", () -> {
      BesideTom x = plain(1);
      x.act(0, 2, 0);
      for (int far : FAR) is(NONE, x.trace(far));
      is(NONE, x.trace(19));
      is(NONE, x.trace(20));
    });
    edge(32, "in the latest act(): a shorter one", () -> {
      BesideTom x = of(6, 0, 0, 0);
      x.act(0, 2, 0);
      x.act(1, 0, 0);
      is(10, x.trace(0));
      is(NONE, x.trace(1));
    });
    edge(32, "the first 20 are kept: the longest has 12", () -> {
      BesideTom x = of(6, 0);
      x.act(0, 2, 0);
      int[] due = {40, 12, 70, 11, 71, 10, 10, 70, 11, 71, 10, 10};
      for (int i = 0; i < due.length; i++) is(due[i], x.trace(i));
      is(NONE, x.trace(12));
      is(12, x.count(6));
    });
  }

  private static void taken() {
    edge(33, "BAD: k -1", () -> is(BAD, plain(1).taken(0, -1)));
    edge(33, "BAD: k 7", () -> is(BAD, of(6, 0).taken(0, 7)));
    edge(33, "BAD: k far off", () -> {
      for (int far : FAR) is(BAD, plain(1).taken(0, far));
    });
    edge(33, "NOTHING: no such PUPIL, -1", () -> is(NOTHING, plain(6).taken(-1, 0)));
    edge(33, "NOTHING: no such PUPIL, who has not come", () -> is(NOTHING, plain(2).taken(2, 0)));
    edge(33, "NOTHING: no such PUPIL, 6", () -> is(NOTHING, plain(6).taken(6, 0)));
    edge(33, "NOTHING: no such PUPIL, far off", () -> {
      for (int far : FAR) is(NOTHING, plain(6).taken(far, 6));
    });
    edge(33, "NOTHING: nobody, taken for any", () -> {
      for (int k = 0; k <= 6; k++) is(NOTHING, new BesideTom().taken(0, k));
    });
    edge(33, "CAST: one above for one under it", () -> {
      for (int k = 1; k <= 6; k++) is(CAST, plain(1).taken(0, k));
      is(CAST, of(1, 0).taken(0, 4));
      is(CAST, of(2, 0).taken(0, 5));
      is(CAST, of(3, 0).taken(0, 6));
    });
    edge(33, "CAST: one beside it", () -> {
      is(CAST, of(1, 0).taken(0, 2));
      is(CAST, of(4, 0).taken(0, 2));
      is(CAST, of(5, 0).taken(0, 6));
      is(CAST, of(6, 0).taken(0, 1));
    });
    edge(33, "of KIND k, or one under that: itself", () -> {
      for (int k = 0; k <= 6; k++) is(k, of(k, 0).taken(0, k));
    });
    edge(33, "of KIND k, or one under that: all under 0", () -> {
      for (int kind = 0; kind <= 6; kind++) is(kind, of(kind, 0).taken(0, 0));
    });
    edge(33, "of KIND k, or one under that: by one", () -> {
      is(4, of(4, 0).taken(0, 1));
      is(5, of(5, 0).taken(0, 2));
      is(6, of(6, 0).taken(0, 3));
    });
    edge(33, "the first that the words name: BAD ahead of NOTHING", () -> is(BAD, plain(1).taken(1, 7)));
  }

  private static void count() {
    edge(34, "BAD: -1", () -> is(BAD, plain(1).count(-1)));
    edge(34, "BAD: 7", () -> is(BAD, plain(1).count(7)));
    edge(34, "BAD: far off", () -> {
      for (int far : FAR) is(BAD, plain(1).count(far));
    });
    edge(34, "0 PUPILS: six, and one too many", () -> {
      BesideTom x = plain(7);
      is(6, x.count(0));
    });
    edge(34, "1 ROOMS: with a FAULT is none", () -> {
      BesideTom x = new BesideTom();
      room(x, "wear 1");
      room(x, "wear");
      is(1, x.count(1));
    });
    edge(34, "5 bytes of THE TEXT: 100", () -> {
      BesideTom x = new BesideTom();
      for (int i = 0; i < 103; i++) x.feed('c');
      is(100, x.count(5));
    });
    edge(34, "6 bodies that ran in the latest act(): not of two", () -> {
      BesideTom x = plain(1);
      x.act(0, 2, 1);
      x.act(0, 1, 1);
      is(2, x.count(6));
    });
  }

  private static void tape() {
    edge(35, "NONE: TAPE -1", () -> is(NONE, new BesideTom().tape(-1, 0, 1)));
    edge(35, "NONE: TAPE 6", () -> is(NONE, new BesideTom().tape(6, 0, 1)));
    edge(35, "NONE: TAPE far off", () -> {
      for (int far : FAR) is(NONE, new BesideTom().tape(far, -1, 0));
    });
    edge(35, "TAPES 0 and 5", () -> {
      is(1, new BesideTom().tape(0, 0, 1));
      is(1, new BesideTom().tape(5, 0, 1));
    });
    edge(35, "BAD: sort -2", () -> is(BAD, new BesideTom().tape(0, -2, 1)));
    edge(35, "BAD: sort 5", () -> is(BAD, new BesideTom().tape(0, 5, 1)));
    edge(35, "BAD: sort far off", () -> {
      for (int far : FAR) is(BAD, new BesideTom().tape(0, far, 1));
    });
    edge(35, "BAD: n above 60", () -> {
      for (int sort = 0; sort <= 4; sort++) is(BAD, new BesideTom().tape(0, sort, 61));
      is(BAD, new BesideTom().tape(0, 0, Integer.MAX_VALUE));
    });
    edge(35, "n 60", () -> {
      for (int sort = 0; sort <= 4; sort++) {
        BesideTom x = new BesideTom();
        is(1, x.tape(sort, sort, 60));
        is(0, x.read(sort, 59));
        is(NO, x.read(sort, 60));
      }
    });
    edge(35, "n 0: a row of none is not nothing", () -> {
      BesideTom x = new BesideTom();
      is(1, x.tape(0, 0, 0));
      is(NO, x.read(0, 0));
      is(PLACE, x.item(0, 0, 1));
    });
    edge(35, "SIZE: n below 0", () -> {
      for (int sort = 0; sort <= 4; sort++) is(SIZE, new BesideTom().tape(0, sort, -1));
      is(SIZE, new BesideTom().tape(0, 0, Integer.MIN_VALUE));
    });
    edge(35, "(sort -1: n does not matter)", () -> {
      BesideTom x = new BesideTom();
      is(1, x.tape(0, -1, 61));
      is(1, x.tape(0, -1, -1));
      for (int far : FAR) is(1, x.tape(0, -1, far));
    });
    edge(35, "holds nothing (sort -1): then", () -> {
      BesideTom x = new BesideTom();
      x.tape(0, 0, 5);
      is(1, x.tape(0, -1, 5));
      is(NOTHING, x.item(0, 0, 1));
      is(NO, x.read(0, 0));
    });
    edge(35, "holds nothing (sort -1): so already", () -> is(1, new BesideTom().tape(0, -1, 0)));
    edge(35, "all 0: over an older row", () -> {
      BesideTom x = new BesideTom();
      x.tape(0, 3, 60);
      for (int i = 0; i < 60; i++) x.item(0, i, -1);
      x.tape(0, 3, 60);
      for (int i = 0; i < 60; i++) is(0, x.read(0, i));
    });
    edge(35, "all 0: a longer row behind a shorter one", () -> {
      BesideTom x = new BesideTom();
      x.tape(0, 2, 4);
      x.item(0, 3, 9);
      x.tape(0, 2, 2);
      x.tape(0, 2, 4);
      is(0, x.read(0, 3));
    });
    edge(35, "the first that the words name: NONE ahead of BAD, of SIZE", () -> {
      is(NONE, new BesideTom().tape(6, 5, 1));
      is(NONE, new BesideTom().tape(-1, 0, -1));
    });
    edge(35, "the first that the words name: BAD ahead of SIZE", () -> is(BAD, new BesideTom().tape(0, 5, -1)));
    edge(35, "refused: the row stays", () -> {
      BesideTom x = new BesideTom();
      x.tape(0, 2, 3);
      x.item(0, 1, 7);
      x.tape(0, 5, 1);
      x.tape(0, 0, 61);
      x.tape(0, 0, -1);
      is(7, x.read(0, 1));
      is(NO, x.read(0, 3));
    });
  }

  private static BesideTom rowOf(int sort, int n) {
    BesideTom x = new BesideTom();
    x.tape(1, sort, n);
    return x;
  }

  private static void item() {
    edge(36, "NONE: TAPE -1", () -> is(NONE, rowOf(2, 3).item(-1, 0, 1)));
    edge(36, "NONE: TAPE 6", () -> is(NONE, rowOf(2, 3).item(6, 0, 1)));
    edge(36, "NONE: TAPE far off", () -> {
      for (int far : FAR) is(NONE, rowOf(2, 3).item(far, 0, 1));
    });
    edge(36, "NOTHING: nothing is there", () -> is(NOTHING, rowOf(2, 3).item(0, 0, 1)));
    edge(36, "PLACE: -1", () -> is(PLACE, rowOf(2, 3).item(1, -1, 1)));
    edge(36, "PLACE: behind the last", () -> is(PLACE, rowOf(2, 3).item(1, 3, 1)));
    edge(36, "PLACE: of a row of none", () -> is(PLACE, rowOf(2, 0).item(1, 0, 1)));
    edge(36, "PLACE: behind the last of 60", () -> is(PLACE, rowOf(2, 60).item(1, 60, 1)));
    edge(36, "PLACE: far off", () -> {
      for (int far : FAR) is(PLACE, rowOf(2, 3).item(1, far, 1));
    });
    edge(36, "the first and the last place", () -> {
      BesideTom x = rowOf(2, 60);
      is(1, x.item(1, 0, 5));
      is(1, x.item(1, 59, 6));
      is(5, x.read(1, 0));
      is(6, x.read(1, 59));
      is(0, x.read(1, 1));
      is(0, x.read(1, 58));
    });
    edge(36, "the first that the words name: NONE ahead of NOTHING, of PLACE", () -> {
      is(NONE, new BesideTom().item(6, -1, 1));
    });
    edge(36, "the first that the words name: NOTHING ahead of PLACE", () -> is(NOTHING, new BesideTom().item(0, -1, 1)));
  }

  private static void becomes(int sort, long due, long v) {
    BesideTom x = rowOf(sort, 1);
    is(1, x.item(1, 0, v));
    is(due, x.read(1, 0));
  }

  private static void itemBySort() {
    edge(36, "its lowest bits: the greatest and the least that fit", () -> {
      for (int sort = 0; sort < 2; sort++) {
        becomes(sort, MOST[sort], MOST[sort]);
        becomes(sort, -MOST[sort] - 1, -MOST[sort] - 1);
      }
      becomes(2, Integer.MAX_VALUE, Integer.MAX_VALUE);
      becomes(2, Integer.MIN_VALUE, Integer.MIN_VALUE);
      becomes(3, Long.MAX_VALUE, Long.MAX_VALUE);
      becomes(3, Long.MIN_VALUE, Long.MIN_VALUE);
    });
    edge(36, "its lowest bits, around: one more, one less", () -> {
      for (int sort = 0; sort < 2; sort++) {
        becomes(sort, -MOST[sort] - 1, MOST[sort] + 1);
        becomes(sort, MOST[sort], -MOST[sort] - 2);
      }
      becomes(2, Integer.MIN_VALUE, Integer.MAX_VALUE + 1L);
      becomes(2, Integer.MAX_VALUE, Integer.MIN_VALUE - 1L);
    });
    edge(36, "its lowest bits, around: bits that are cut off", () -> {
      becomes(0, 0, 256);
      becomes(0, -1, 255);
      becomes(0, 0, Long.MIN_VALUE);
      becomes(0, -1, Long.MAX_VALUE);
      becomes(1, 0, 65536);
      becomes(1, -1, 65535);
      becomes(2, 0, 1L << 32);
      becomes(2, -1, (1L << 32) - 1);
      becomes(2, -1, Long.MAX_VALUE);
    });
    edge(36, "booleans: whether v is not 0", () -> {
      becomes(4, 0, 0);
      becomes(4, 1, 1);
      becomes(4, 1, -1);
      becomes(4, 1, 2);
    });
    edge(36, "booleans: whether v is not 0, its lowest bits are", () -> {
      becomes(4, 1, 256);
      becomes(4, 1, 1L << 32);
      becomes(4, 1, Long.MIN_VALUE);
    });
    edge(36, "booleans: 0 again", () -> {
      BesideTom x = rowOf(4, 1);
      x.item(1, 0, 5);
      x.item(1, 0, 0);
      is(0, x.read(1, 0));
    });
  }

  private static void read() {
    edge(37, "NO: no such TAPE, -1", () -> is(NO, rowOf(2, 3).read(-1, 0)));
    edge(37, "NO: no such TAPE, 6", () -> is(NO, rowOf(2, 3).read(6, 0)));
    edge(37, "NO: no such TAPE, far off", () -> {
      for (int far : FAR) is(NO, rowOf(2, 3).read(far, 0));
    });
    edge(37, "NO: nothing there", () -> is(NO, rowOf(2, 3).read(0, 0)));
    edge(37, "NO: no such place, -1", () -> is(NO, rowOf(2, 3).read(1, -1)));
    edge(37, "NO: no such place, behind the last", () -> is(NO, rowOf(2, 3).read(1, 3)));
    edge(37, "NO: no such place, of a row of none", () -> is(NO, rowOf(2, 0).read(1, 0)));
    edge(37, "NO: no such place, far off", () -> {
      for (int far : FAR) is(NO, rowOf(2, 60).read(1, far));
    });
    edge(37, "NO: a place of an older, longer row", () -> {
      BesideTom x = rowOf(2, 5);
      x.item(1, 4, 4);
      x.tape(1, 2, 4);
      is(NO, x.read(1, 4));
    });
    edge(37, "the least long is an item too", () -> {
      BesideTom x = rowOf(3, 1);
      is(0, x.read(1, 0));
      x.item(1, 0, Long.MIN_VALUE);
      is(Long.MIN_VALUE, x.read(1, 0));
    });
    edge(37, "the first and the last place of the last TAPE", () -> {
      BesideTom x = new BesideTom();
      x.tape(5, 1, 60);
      x.item(5, 0, 3);
      x.item(5, 59, 4);
      is(3, x.read(5, 0));
      is(4, x.read(5, 59));
    });
  }

  /** TAPES 0 and 1 are rows of such a sort: 1 2 3 4 5, and 6 7 8. */
  private static BesideTom two(int sort) {
    BesideTom x = new BesideTom();
    x.tape(0, sort, 5);
    x.tape(1, sort, 3);
    for (int i = 0; i < 5; i++) x.item(0, i, i + 1);
    for (int i = 0; i < 3; i++) x.item(1, i, i + 6);
    return x;
  }

  private static void row(BesideTom x, int tape, long... due) {
    for (int i = 0; i < due.length; i++) is(due[i], x.read(tape, i));
    is(NO, x.read(tape, due.length));
  }

  private static void shift() {
    edge(38, "n items: none", () -> {
      BesideTom x = two(2);
      is(0, x.shift(0, 0, 1, 0, 0));
      row(x, 1, 6, 7, 8);
    });
    edge(38, "n items: none, at either's end", () -> {
      is(0, two(2).shift(0, 5, 1, 3, 0));
      is(0, two(2).shift(0, 5, 0, 5, 0));
    });
    edge(38, "n items: none, of rows of none", () -> {
      BesideTom x = new BesideTom();
      x.tape(0, 0, 0);
      x.tape(1, 0, 0);
      is(0, x.shift(0, 0, 1, 0, 0));
    });
    edge(38, "n items: up to either's end", () -> {
      BesideTom x = two(2);
      is(2, x.shift(0, 3, 1, 1, 2));
      row(x, 1, 6, 4, 5);
      row(x, 0, 1, 2, 3, 4, 5);
    });
    edge(38, "n items: all of one", () -> {
      BesideTom x = two(2);
      is(3, x.shift(1, 0, 0, 2, 3));
      row(x, 0, 1, 2, 6, 7, 8);
      row(x, 1, 6, 7, 8);
    });
    edge(38, "n items: 60", () -> {
      BesideTom x = new BesideTom();
      x.tape(4, 3, 60);
      x.tape(5, 3, 60);
      for (int i = 0; i < 60; i++) x.item(4, i, i + 1);
      is(60, x.shift(4, 0, 5, 0, 60));
      for (int i = 0; i < 60; i++) is(i + 1, x.read(5, i));
    });
    edge(38, "(or the same), as they all were before: up", () -> {
      BesideTom x = two(2);
      is(4, x.shift(0, 0, 0, 1, 4));
      row(x, 0, 1, 1, 2, 3, 4);
    });
    edge(38, "(or the same), as they all were before: down", () -> {
      BesideTom x = two(2);
      is(4, x.shift(0, 1, 0, 0, 4));
      row(x, 0, 2, 3, 4, 5, 5);
    });
    edge(38, "(or the same), to where they are", () -> {
      BesideTom x = two(2);
      is(5, x.shift(0, 0, 0, 0, 5));
      row(x, 0, 1, 2, 3, 4, 5);
    });
    edge(38, "of each sort", () -> {
      for (int sort = 0; sort <= 4; sort++) is(2, two(sort).shift(0, 0, 1, 0, 2));
    });
  }

  private static void shiftRefused() {
    edge(38, "NONE: TAPES, the one", () -> {
      is(NONE, two(2).shift(-1, 0, 1, 0, 1));
      is(NONE, two(2).shift(6, 0, 1, 0, 1));
      for (int far : FAR) is(NONE, two(2).shift(far, 0, 1, 0, 1));
    });
    edge(38, "NONE: TAPES, the other", () -> {
      is(NONE, two(2).shift(0, 0, -1, 0, 1));
      is(NONE, two(2).shift(0, 0, 6, 0, 1));
      for (int far : FAR) is(NONE, two(2).shift(0, 0, far, 0, 1));
    });
    edge(38, "NOTHING: the one holds nothing", () -> is(NOTHING, two(2).shift(2, 0, 1, 0, 0)));
    edge(38, "NOTHING: the other holds nothing", () -> is(NOTHING, two(2).shift(0, 0, 2, 0, 0)));
    edge(38, "NOTHING: both, and the same", () -> {
      is(NOTHING, two(2).shift(2, 0, 3, 0, 0));
      is(NOTHING, two(2).shift(2, 0, 2, 0, 0));
    });
    edge(38, "CAST: of unlike sorts", () -> {
      for (int one = 0; one <= 4; one++) {
        for (int other = 0; other <= 4; other++) {
          BesideTom x = two(one);
          x.tape(2, other, 5);
          is(one == other ? 1 : CAST, x.shift(0, 0, 2, 0, 1));
        }
      }
    });
    edge(38, "CAST: of unlike sorts, none of them", () -> {
      BesideTom x = two(2);
      x.tape(2, 3, 0);
      is(CAST, x.shift(0, 0, 2, 0, 0));
    });
    edge(38, "PLACE: n is below 0", () -> {
      is(PLACE, two(2).shift(0, 0, 1, 0, -1));
      is(PLACE, two(2).shift(0, 3, 1, 3, -2));
    });
    edge(38, "PLACE: i is below 0", () -> {
      is(PLACE, two(2).shift(0, -1, 1, 0, 1));
      is(PLACE, two(2).shift(0, -1, 1, 0, 0));
    });
    edge(38, "PLACE: j is below 0", () -> {
      is(PLACE, two(2).shift(0, 0, 1, -1, 1));
      is(PLACE, two(2).shift(0, 0, 1, -1, 0));
    });
    edge(38, "PLACE: beyond the one's end", () -> {
      is(PLACE, two(2).shift(0, 5, 1, 0, 1));
      is(PLACE, two(2).shift(0, 3, 1, 0, 3));
      is(PLACE, two(2).shift(0, 6, 1, 0, 0));
    });
    edge(38, "PLACE: beyond the other's end", () -> {
      is(PLACE, two(2).shift(0, 0, 1, 3, 1));
      is(PLACE, two(2).shift(0, 0, 1, 1, 3));
      is(PLACE, two(2).shift(0, 0, 1, 4, 0));
    });
    edge(38, "PLACE: beyond the end of both that are one", () -> is(PLACE, two(2).shift(0, 0, 0, 1, 5)));
    edge(38, "PLACE: far off, around", () -> {
      for (int far : FAR) {
        is(PLACE, two(2).shift(0, far, 1, 0, 1));
        is(PLACE, two(2).shift(0, 0, 1, far, 1));
        is(PLACE, two(2).shift(0, 0, 1, 0, far));
        is(PLACE, two(2).shift(0, far, 1, far, far));
      }
      is(PLACE, two(2).shift(0, 1, 1, 1, Integer.MAX_VALUE));
      is(PLACE, two(2).shift(0, Integer.MAX_VALUE, 1, 1, Integer.MAX_VALUE));
    });
    edge(38, "the first that the words name: NONE ahead of NOTHING", () -> {
      is(NONE, two(2).shift(2, 0, 6, 0, 1));
      is(NONE, two(2).shift(6, 0, 2, 0, 1));
    });
    edge(38, "the first that the words name: NONE ahead of PLACE", () -> is(NONE, two(2).shift(0, -1, 6, 0, 1)));
    edge(38, "the first that the words name: NOTHING ahead of CAST, of PLACE", () -> {
      is(NOTHING, two(2).shift(0, -1, 2, 0, -1));
      is(NOTHING, two(2).shift(2, -1, 0, 0, -1));
    });
    edge(38, "the first that the words name: CAST ahead of PLACE", () -> {
      BesideTom x = two(2);
      x.tape(2, 3, 1);
      is(CAST, x.shift(0, -1, 2, 0, 1));
      is(CAST, x.shift(0, 0, 2, 9, -1));
    });
  }
}
