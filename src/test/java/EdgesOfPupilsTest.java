/** Each boundary that the document names in promises 1 to 7, and in the terms that they rest on. */
public final class EdgesOfPupilsTest extends Edge {
  private EdgesOfPupilsTest() {}

  public static void main(String[] args) {
    face();
    atFirst();
    pupil();
    of();
    near();
    voice();
    talk();
    learns();
    move();
    away();
    knows();
    line();
    ends("EdgesOfPupilsTest");
  }

  private static void face() {
    edge(1, "NONE = -1", () -> is(-1, BesideTom.NONE));
    edge(1, "BAD = -2", () -> is(-2, BesideTom.BAD));
    edge(1, "STATE = -3", () -> is(-3, BesideTom.STATE));
    edge(1, "FULL = -4", () -> is(-4, BesideTom.FULL));
    edge(1, "NO = Long.MIN_VALUE: There is no such number", () -> is(Long.MIN_VALUE, BesideTom.NO));
    edge(1, "An object is used for at most 512 calls: the 512th is answered as due", () -> {
      BesideTom x = plain(2);
      for (int call = 3; call < 512; call++) x.pass(1);
      is(509, x.told(0));
    });
  }

  private static void atFirst() {
    edge(1, "Nobody: how many", () -> is(0, new BesideTom().count(0)));
    edge(1, "Nobody: no number", () -> {
      for (int p = -1; p <= 6; p++) for (int what = 0; what <= 15; what++) is(NONE, new BesideTom().of(p, what));
    });
    edge(1, "Nobody: each DESK is free", () -> {
      for (int d = 0; d < 6; d++) is(MISSING, new BesideTom().told(10 + d));
    });
    edge(1, "Nobody: no NOISE, no KNOWS, no LEARNS", () -> {
      for (int what = 4; what <= 6; what++) is(0, new BesideTom().told(what));
    });
    edge(1, "no ROOM: how many", () -> is(0, new BesideTom().count(1)));
    edge(1, "no ROOM: WEARS (3 without)", () -> is(3, new BesideTom().told(2)));
    edge(1, "no ROOM: COST (4 without)", () -> is(4, new BesideTom().told(3)));
    edge(1, "no ROOM: without one there are no CLAUSES, MOUTH is 3", () -> {
      for (int d = 0; d < 6; d++) is(3, plain(1).of(0, 10 + d));
    });
    edge(1, "WEEK: 0 at first", () -> is(0, new BesideTom().told(0)));
    edge(1, "WEAR 0 at first", () -> is(0, new BesideTom().told(1)));
    edge(1, "nothing is HEARD at first", () -> is(0, new BesideTom().count(2)));
    edge(1, "the TERM is empty at first", () -> is(0, new BesideTom().count(3)));
    edge(1, "the BOOK is empty at first", () -> is(0, new BesideTom().count(4)));
    edge(1, "THE TEXT is empty at first", () -> is(0, new BesideTom().count(5)));
    edge(1, "no body ran at first", () -> is(0, new BesideTom().count(6)));
    edge(1, "no TRACE at first", () -> is(NONE, new BesideTom().trace(0)));
    edge(1, "no IMAGE at first", () -> is(STATE, new BesideTom().undo()));
    edge(1, "TAPES hold nothing (at first)", () -> {
      for (int tape = 0; tape < 6; tape++) is(NOTHING, new BesideTom().item(tape, 0, 1));
      for (int tape = 0; tape < 6; tape++) is(NO, new BesideTom().read(tape, 0));
    });
    edge(1, "a new object has nothing of another one", () -> {
      BesideTom other = of(6, 9, 5, 3);
      room(other, "chat 2 p=0;wear 7;cost 9");
      other.line(0, 0, 5);
      other.tape(0, 0, 5);
      other.image();
      other.act(0, 0, 1);
      other.hear(1, 1);
      other.feed('c');
      other.pass(5);
      BesideTom x = new BesideTom();
      int[] counts = new int[7], told = {0, 0, 3, 4, 0, 0, 0};
      for (int what = 0; what < 7; what++) is(counts[what], x.count(what));
      for (int what = 0; what < 7; what++) is(told[what], x.told(what));
      is(STATE, x.undo());
      is(NOTHING, x.item(0, 0, 1));
      is(0, x.pupil(6, 9));
      is(0, x.line(0, 0, 1));
      is(3, x.of(0, 10));
      is(2, other.count(0));
    });
  }

  private static void pupil() {
    edge(2, "its number: PUPILS 0 .. 5, as they come", () -> {
      BesideTom x = new BesideTom();
      for (int p = 0; p < 6; p++) is(p, x.pupil(0, 0));
    });
    edge(2, "NONE: kind, too small", () -> is(NONE, new BesideTom().pupil(-1, 0)));
    edge(2, "NONE: kind, too large", () -> is(NONE, new BesideTom().pupil(7, 0)));
    edge(2, "NONE: kind, far off", () -> {
      for (int far : FAR) is(NONE, new BesideTom().pupil(far, 0));
    });
    edge(2, "KIND 0 is one", () -> is(0, new BesideTom().pupil(0, 0)));
    edge(2, "KIND 6 is one", () -> is(0, new BesideTom().pupil(6, 0)));
    edge(2, "BAD: v, too small", () -> is(BAD, new BesideTom().pupil(0, -1)));
    edge(2, "BAD: v, too large", () -> is(BAD, new BesideTom().pupil(0, 10)));
    edge(2, "BAD: v, far off", () -> {
      for (int far : FAR) is(BAD, new BesideTom().pupil(0, far));
    });
    edge(2, "v 0 is one", () -> is(0, new BesideTom().pupil(0, 0)));
    edge(2, "v 9 is one", () -> {
      BesideTom x = new BesideTom();
      is(0, x.pupil(0, 9));
      is(9, x.of(0, 1));
    });
    edge(2, "FULL: 6, the seventh", () -> is(FULL, plain(6).pupil(0, 0)));
    edge(2, "FULL: 6, not yet the sixth", () -> is(5, plain(5).pupil(0, 0)));
    edge(2, "the first that the words name: NONE ahead of BAD", () -> is(NONE, new BesideTom().pupil(7, 10)));
    edge(2, "the first that the words name: NONE ahead of FULL", () -> is(NONE, plain(6).pupil(-1, 0)));
    edge(2, "the first that the words name: BAD ahead of FULL", () -> is(BAD, plain(6).pupil(0, 10)));
    edge(2, "a DESK, the least that is free at first: all free", () -> is(0, plain(1).of(0, 2)));
    edge(2, "a DESK, the least that is free at first: a gap", () -> {
      BesideTom x = plain(3);
      x.move(1, 5);
      x.pupil(0, 0);
      is(1, x.of(3, 2));
      x.pupil(0, 0);
      is(3, x.of(4, 2));
    });
    edge(2, "a DESK, the least that is free at first: the last that is", () -> {
      is(5, plain(6).of(5, 2));
      BesideTom x = plain(5);
      x.move(4, 5);
      x.pupil(0, 0);
      is(4, x.of(5, 2));
    });
    edge(2, "no two have one DESK: who is AWAY keeps its own", () -> {
      BesideTom x = plain(1);
      x.away(0, true);
      x.pupil(0, 0);
      is(1, x.of(1, 2));
    });
    edge(2, "KNOWS 0 at first", () -> is(0, plain(1).of(0, 3)));
    edge(2, "AWAY, or not (not at first)", () -> is(0, plain(1).of(0, 4)));
    edge(2, "LINE 0 at first", () -> {
      BesideTom x = of(6, 0);
      for (int part = 0; part < 4; part++) is(0, x.line(0, part, 0));
    });
    edge(2, "a PUPIL that comes leaves WEAR as it is", () -> {
      BesideTom x = plain(1);
      x.pass(5);
      x.pupil(0, 0);
      is(5, x.told(1));
    });
  }

  private static void of() {
    edge(3, "NONE: PUPIL -1", () -> {
      for (int what = 0; what <= 15; what++) is(NONE, plain(6).of(-1, what));
    });
    edge(3, "NONE: one who has not come", () -> {
      for (int what = 0; what <= 15; what++) is(NONE, plain(3).of(3, what));
    });
    edge(3, "NONE: PUPIL 6", () -> {
      for (int what = 0; what <= 15; what++) is(NONE, plain(6).of(6, what));
    });
    edge(3, "NONE: PUPIL far off", () -> {
      for (int far : FAR) is(NONE, plain(6).of(far, 0));
      for (int far : FAR) is(NONE, plain(6).of(far, 10));
    });
    edge(3, "NONE: what -1", () -> is(NONE, plain(1).of(0, -1)));
    edge(3, "NONE: what 9, between 8 and 10", () -> is(NONE, plain(1).of(0, 9)));
    edge(3, "NONE: what 16, of DESK 6", () -> is(NONE, plain(6).of(0, 16)));
    edge(3, "NONE: what far off", () -> {
      for (int far : FAR) is(NONE, plain(1).of(0, far));
    });
    edge(3, "the first and the last PUPIL", () -> {
      BesideTom x = of(1, 2, 0, 0, 0, 0, 0, 0, 0, 0, 6, 7);
      is(1, x.of(0, 0));
      is(2, x.of(0, 1));
      is(6, x.of(5, 0));
      is(7, x.of(5, 1));
    });
    edge(3, "10 and d MOUTH at DESK d, the first and the last", () -> {
      BesideTom x = plain(1);
      room(x, "chat 1 d=0;chat 2 d=5");
      is(4, x.of(0, 10));
      is(3, x.of(0, 11));
      is(3, x.of(0, 14));
      is(5, x.of(0, 15));
    });
    edge(3, "MOUTH: 0 at least", () -> {
      BesideTom x = plain(1);
      room(x, "hush 3 d=0;hush 4 d=1;hush 99 d=2;hush 2 d=3");
      int[] due = {0, 0, 0, 1, 3, 3};
      for (int d = 0; d < 6; d++) is(due[d], x.of(0, 10 + d));
    });
    edge(3, "MOUTH: 0 at least, all together", () -> {
      BesideTom x = plain(1);
      room(x, "hush 9 d=0;chat 7 d=0");
      is(1, x.of(0, 10));
    });
  }

  private static void near() {
    edge(3, "NEXT: in COLUMNS that are 1 apart, not 2", () -> {
      BesideTom x = plain(1);
      x.pupil(0, 0);
      x.move(1, 2);
      is(0, x.of(0, 5));
    });
    edge(3, "NEXT: in one ROW, DESKS 2 and 3 are in two", () -> {
      BesideTom x = plain(2);
      x.move(0, 2);
      x.move(1, 3);
      is(0, x.of(0, 5));
      is(0, x.of(1, 5));
    });
    edge(3, "NEXT: askew is not next", () -> {
      BesideTom x = plain(2);
      x.move(1, 4);
      is(0, x.of(0, 5));
      x.move(1, 2);
      x.move(0, 4);
      is(0, x.of(0, 5));
    });
    edge(3, "NEXT: in one COLUMN", () -> {
      for (int d = 0; d < 3; d++) {
        BesideTom x = plain(2);
        x.move(0, d);
        x.move(1, d + 3);
        is(2, x.of(0, 5));
        is(1, x.of(1, 5));
      }
    });
    edge(3, "NEIGHBOURS: all of six", () -> {
      int[] due = {10, 21, 34, 17, 42, 20};
      for (int p = 0; p < 6; p++) is(due[p], plain(6).of(p, 5));
    });
    edge(3, "NEIGHBOURS: those who are not AWAY", () -> {
      BesideTom x = plain(3);
      x.away(0, true);
      is(4, x.of(1, 5));
    });
    edge(3, "NEIGHBOURS of one who is AWAY are there", () -> {
      BesideTom x = plain(3);
      x.away(1, true);
      is(5, x.of(1, 5));
      is(0, x.of(0, 5));
    });
    edge(3, "NEIGHBOURS: none", () -> is(0, plain(1).of(0, 5)));
  }

  private static void voice() {
    edge(3, "VOICE: MOUTH times how many NEIGHBOURS it has, none", () -> {
      is(0, of(0, 9).of(0, 6));
      is(0, of(3, 9).of(0, 6));
    });
    edge(3, "VOICE of a TALKER: and v, if it has any NEIGHBOURS: none", () -> is(0, of(1, 9).of(0, 6)));
    edge(3, "VOICE of a TALKER: and v, if it has any NEIGHBOURS: one, MOUTH 0", () -> {
      BesideTom x = of(1, 9, 0, 0);
      room(x, "hush 3 p=0");
      is(9, x.of(0, 6));
    });
    edge(3, "VOICE of a QUIET one: the half (cut)", () -> {
      is(1, of(2, 0, 0, 0).of(0, 6));
      BesideTom x = of(2, 0, 0, 0);
      room(x, "chat 1 p=0");
      is(2, x.of(0, 6));
      room(x, "hush 2 p=0");
      is(0, x.of(0, 6));
    });
    edge(3, "VOICE of TOM: as TALKER, and MOUTH, with no NEIGHBOURS", () -> is(3, of(4, 9).of(0, 6)));
    edge(3, "VOICE of a CORK: 0", () -> is(0, of(5, 9, 0, 0).of(0, 6)));
    edge(3, "VOICE of a TOLD one: its LINE, with no NEIGHBOURS", () -> {
      BesideTom x = of(6, 9);
      x.line(0, 0, 9);
      is(9, x.of(0, 6));
    });
    edge(3, "VOICE of a TOLD one: at WEEK modulo 4, around", () -> {
      BesideTom x = of(6, 0);
      for (int part = 0; part < 4; part++) x.line(0, part, part + 1);
      int[] due = {1, 2, 3, 4, 1, 2};
      for (int week = 0; week < 6; week++) {
        is(due[week], x.of(0, 6));
        x.pass(1);
      }
    });
    edge(3, "VOICE of a TOLD one: at WEEK 9999", () -> {
      BesideTom x = of(6, 0);
      for (int part = 0; part < 4; part++) x.line(0, part, part + 1);
      weeks(x, 9999);
      is(4, x.of(0, 6));
    });
    edge(3, "VOICE of a TOLD one: its own LINE, of the second, of the last", () -> {
      BesideTom x = of(6, 0, 6, 0, 6, 0, 6, 0, 6, 0, 6, 0);
      x.line(1, 0, 4);
      x.line(5, 0, 9);
      is(6, x.of(0, 6));
      is(9 + 4, x.of(1, 6));
      is(6, x.of(4, 6) - 3);
      is(6 + 9, x.of(5, 6));
    });
    edge(3, "VOICE of one who is AWAY is as ever", () -> {
      BesideTom x = plain(2);
      x.away(0, true);
      is(3, x.of(0, 6));
    });
  }

  private static void talk() {
    edge(3, "TALK: VOICE less 2 for each NEIGHBOUR that is a CORK", () -> is(1, of(0, 0, 5, 0).of(0, 7)));
    edge(3, "TALK: less 2 for each CORK (0 at least)", () -> {
      is(0, of(2, 0, 5, 0).of(0, 7));
      BesideTom x = of(5, 0, 2, 0, 5, 0);
      is(3, x.of(1, 6));
      is(0, x.of(1, 7));
    });
    edge(3, "TALK: (0 at least), and WEAR more", () -> {
      BesideTom x = of(2, 0, 5, 0);
      x.pass(3);
      is(1, x.of(0, 7));
    });
    edge(3, "TALK: a CORK that is AWAY is no NEIGHBOUR", () -> {
      BesideTom x = of(4, 0, 5, 0);
      is(4, x.of(0, 7));
      x.away(1, true);
      is(3, x.of(0, 7));
    });
    edge(3, "TALK: a CORK that is not NEXT takes nothing", () -> {
      BesideTom x = of(4, 0, 5, 0);
      x.move(1, 5);
      is(3, x.of(0, 7));
    });
    edge(3, "TALK: and, if it has NEIGHBOURS, WEAR by WEARS", () -> {
      BesideTom x = of(4, 0);
      x.pass(60);
      is(3, x.of(0, 7));
      x.pupil(0, 0);
      is(3 + 3 + 20, x.of(0, 7));
    });
    edge(3, "TALK: WEAR by WEARS (cut)", () -> {
      BesideTom x = plain(2);
      int[] due = {3, 3, 3, 4, 4, 4, 5};
      for (int week = 0; week < 7; week++) {
        is(due[week], x.of(0, 7));
        x.pass(1);
      }
    });
    edge(3, "TALK: WEAR 99 at most", () -> {
      BesideTom x = plain(2);
      room(x, "wear 1");
      weeks(x, 98);
      is(101, x.of(0, 7));
      x.pass(1);
      is(102, x.of(0, 7));
      x.pass(1);
      is(102, x.of(0, 7));
    });
    edge(3, "TALK: 0, if it is a CORK, with WEAR too", () -> {
      BesideTom x = of(5, 0, 0, 0);
      x.pass(30);
      is(0, x.of(0, 7));
    });
    edge(3, "TALK: 0, if it is AWAY, with WEAR too", () -> {
      BesideTom x = of(4, 5, 0, 0);
      x.pass(30);
      x.away(0, true);
      is(0, x.of(0, 7));
    });
  }

  private static void learns() {
    edge(3, "LEARNS: 10 less NOISE by COST (cut)", () -> {
      BesideTom x = plain(2);
      x.move(1, 5);
      is(10, x.of(0, 8));
      room(x, "hush 1 p=0;hush 2 p=1");
      x.move(1, 1);
      is(3, x.told(4));
      is(10, x.of(0, 8));
      room(x, "hush 1 p=0;hush 1 p=1");
      is(4, x.told(4));
      is(9, x.of(0, 8));
    });
    edge(3, "LEARNS: 0 at least in the end, of a PUPIL", () -> {
      BesideTom x = plain(2);
      room(x, "chat 4 p=0;cost 1");
      is(10, x.told(4));
      is(0, x.of(0, 8));
      room(x, "chat 99 p=0;cost 1");
      is(0, x.of(0, 8));
    });
    edge(3, "LEARNS: 0 at least in the end, of a QUIET one", () -> {
      BesideTom x = of(2, 0, 0, 0);
      // NOISE is 1 and 8: 10 less 9, less 1.
      room(x, "chat 5 p=1;cost 1");
      is(0, x.of(0, 8));
      room(x, "chat 6 p=1;cost 1");
      is(0, x.of(0, 8));
    });
    edge(3, "LEARNS: 0 at least in the end, of a SHORT one in ROW 1", () -> {
      BesideTom x = of(3, 0, 4, 0);
      x.move(0, 5);
      // NOISE is TOM's alone: 3 and 2.
      room(x, "chat 2 p=1;cost 1");
      is(0, x.of(0, 8));
      room(x, "chat 3 p=1;cost 1");
      is(0, x.of(0, 8));
      room(x, "chat 1 p=1;cost 1");
      is(1, x.of(0, 8));
    });
    edge(3, "LEARNS: 0 at least in the end, of a CORK", () -> {
      BesideTom x = of(5, 9, 4, 0);
      x.move(1, 5);
      is(1, x.of(0, 8));
      room(x, "cost 3");
      is(0, x.of(0, 8));
      room(x, "cost 1");
      is(0, x.of(0, 8));
    });
    edge(3, "LEARNS: by NOISE now, not a WEEK on", () -> {
      BesideTom x = still(2);
      is(10, x.of(0, 8));
      x.pass(1);
      is(8, x.of(0, 8));
    });
    edge(3, "LEARNS: 0, if it is AWAY", () -> {
      for (int kind = 0; kind < 7; kind++) {
        BesideTom x = of(kind, 0);
        x.away(0, true);
        is(0, x.of(0, 8));
      }
    });
    edge(3, "LEARNS of a SHORT one, a TOLD one: less 5 in ROW 1, not in ROW 0", () -> {
      for (int d = 0; d < 6; d++) {
        BesideTom x = of(3, 0), y = of(6, 0);
        x.move(0, d);
        y.move(0, d);
        is(d < 3 ? 10 : 5, x.of(0, 8));
        is(d < 3 ? 10 : 5, y.of(0, 8));
      }
    });
    edge(3, "LEARNS of a QUIET one: less how many NEIGHBOURS, none", () -> is(10, of(2, 0).of(0, 8)));
  }

  private static void move() {
    edge(4, "NONE: PUPIL -1", () -> is(NONE, plain(6).move(-1, 0)));
    edge(4, "NONE: one who has not come", () -> is(NONE, plain(2).move(2, 0)));
    edge(4, "NONE: PUPIL 6", () -> is(NONE, plain(6).move(6, 0)));
    edge(4, "NONE: nobody is there", () -> is(NONE, new BesideTom().move(0, 0)));
    edge(4, "NONE: PUPIL far off", () -> {
      for (int far : FAR) is(NONE, plain(6).move(far, 0));
    });
    edge(4, "NONE: DESK -1", () -> is(NONE, plain(1).move(0, -1)));
    edge(4, "NONE: DESK 6", () -> is(NONE, plain(1).move(0, 6)));
    edge(4, "NONE: DESK far off", () -> {
      for (int far : FAR) is(NONE, plain(1).move(0, far));
    });
    edge(4, "NONE: WEAR stays", () -> {
      BesideTom x = plain(2);
      x.pass(4);
      x.move(2, 0);
      x.move(0, 6);
      is(4, x.told(1));
    });
    edge(4, "to the first and to the last DESK", () -> {
      BesideTom x = plain(1);
      is(0, x.move(0, 5));
      is(5, x.of(0, 2));
      is(0, x.move(0, 0));
      is(0, x.of(0, 2));
    });
    edge(4, "if somebody else has that, that one gets the DESK it had", () -> {
      BesideTom x = plain(6);
      x.move(0, 5);
      int[] due = {5, 1, 2, 3, 4, 0};
      for (int p = 0; p < 6; p++) is(due[p], x.of(p, 2));
    });
    edge(4, "if somebody else has that: one who is AWAY too", () -> {
      BesideTom x = plain(2);
      x.away(1, true);
      x.move(0, 1);
      is(1, x.of(0, 2));
      is(0, x.of(1, 2));
    });
    edge(4, "if nobody has that, the DESK it had is free", () -> {
      BesideTom x = plain(2);
      x.move(0, 3);
      is(MISSING, x.told(10));
      is(0, x.told(13));
    });
    edge(4, "WEAR is 0 then", () -> {
      BesideTom x = plain(2);
      x.pass(3);
      is(6, x.move(0, 2));
      is(0, x.told(1));
    });
    edge(4, "WEAR is 0 then (also if it has it already)", () -> {
      BesideTom x = plain(2);
      x.pass(3);
      is(6, x.move(0, 0));
      is(0, x.told(1));
    });
    edge(4, "NOISE then: by WEAR 0, of this WEEK", () -> {
      BesideTom x = still(2);
      is(2, x.pass(1));
      is(0, x.move(0, 0));
      BesideTom y = of(6, 0);
      y.line(0, 1, 9);
      is(0, y.move(0, 5));
    });
    edge(4, "WEAR is 0 then, if one MOVES who is AWAY", () -> {
      BesideTom x = plain(2);
      x.pass(3);
      x.away(0, true);
      is(0, x.move(0, 5));
      is(0, x.told(1));
      is(5, x.of(0, 2));
    });
  }

  private static void away() {
    edge(5, "NONE: PUPIL -1", () -> is(NONE, plain(6).away(-1, true)));
    edge(5, "NONE: one who has not come", () -> is(NONE, plain(2).away(2, true)));
    edge(5, "NONE: PUPIL 6", () -> is(NONE, plain(6).away(6, false)));
    edge(5, "NONE: nobody is there", () -> is(NONE, new BesideTom().away(0, false)));
    edge(5, "NONE: PUPIL far off", () -> {
      for (int far : FAR) is(NONE, plain(6).away(far, true));
    });
    edge(5, "NONE: nobody is AWAY by that", () -> {
      BesideTom x = plain(5);
      for (int p : new int[] {-1, 5, 6, 32, 37}) x.away(p, true);
      x.pupil(0, 0);
      for (int p = 0; p < 6; p++) is(0, x.of(p, 4));
    });
    edge(5, "whether it was: not yet", () -> is(0, plain(1).away(0, true)));
    edge(5, "whether it was: so already", () -> {
      BesideTom x = plain(1);
      x.away(0, true);
      is(1, x.away(0, true));
      is(1, x.of(0, 4));
    });
    edge(5, "whether it was: till now", () -> {
      BesideTom x = plain(1);
      x.away(0, true);
      is(1, x.away(0, false));
      is(0, x.of(0, 4));
    });
    edge(5, "whether it was: not at all", () -> {
      BesideTom x = plain(1);
      is(0, x.away(0, false));
      is(0, x.of(0, 4));
    });
    edge(5, "only that one: the first and the last", () -> {
      BesideTom x = plain(6);
      x.away(0, true);
      x.away(5, true);
      int[] due = {1, 0, 0, 0, 0, 1};
      for (int p = 0; p < 6; p++) is(due[p], x.of(p, 4));
    });
    edge(5, "WEAR stays", () -> {
      BesideTom x = plain(2);
      x.pass(4);
      x.away(0, true);
      x.away(0, false);
      is(4, x.told(1));
    });
  }

  private static void knows() {
    edge(6, "NONE: PUPIL -1", () -> is(NONE, plain(6).knows(-1, 0)));
    edge(6, "NONE: one who has not come", () -> is(NONE, plain(2).knows(2, 0)));
    edge(6, "NONE: PUPIL 6", () -> is(NONE, plain(6).knows(6, 0)));
    edge(6, "NONE: PUPIL far off", () -> {
      for (int far : FAR) is(NONE, plain(6).knows(far, 0));
    });
    edge(6, "BAD: below 0", () -> is(BAD, plain(1).knows(0, -1)));
    edge(6, "BAD: above 9999", () -> is(BAD, plain(1).knows(0, 10000)));
    edge(6, "BAD: far off", () -> {
      for (int far : FAR) is(BAD, plain(1).knows(0, far));
    });
    edge(6, "n 0", () -> {
      BesideTom x = plain(1);
      x.knows(0, 5);
      is(5, x.knows(0, 0));
      is(0, x.of(0, 3));
    });
    edge(6, "n 9999", () -> {
      BesideTom x = plain(1);
      is(0, x.knows(0, 9999));
      is(9999, x.of(0, 3));
    });
    edge(6, "the first that the words name: NONE ahead of BAD", () -> is(NONE, plain(1).knows(1, 10000)));
    edge(6, "of the last PUPIL", () -> {
      BesideTom x = plain(6);
      x.knows(5, 8);
      is(8, x.told(5));
      is(8, x.of(5, 3));
    });
  }

  private static void line() {
    edge(7, "NONE: PUPIL -1", () -> is(NONE, of(6, 0).line(-1, 0, 0)));
    edge(7, "NONE: one who has not come", () -> is(NONE, of(6, 0).line(1, 0, 0)));
    edge(7, "NONE: PUPIL 6", () -> is(NONE, of(6, 0, 6, 0, 6, 0, 6, 0, 6, 0, 6, 0).line(6, 0, 0)));
    edge(7, "NONE: PUPIL far off", () -> {
      for (int far : FAR) is(NONE, of(6, 0).line(far, 0, 0));
    });
    edge(7, "NONE: part -1", () -> is(NONE, of(6, 0, 6, 0).line(1, -1, 0)));
    edge(7, "NONE: part 4", () -> is(NONE, of(6, 0, 6, 0).line(0, 4, 0)));
    edge(7, "NONE: part far off", () -> {
      for (int far : FAR) is(NONE, of(6, 0).line(0, far, 0));
    });
    edge(7, "BAD: n below 0", () -> is(BAD, of(6, 0).line(0, 0, -1)));
    edge(7, "BAD: n above 9", () -> is(BAD, of(6, 0).line(0, 0, 10)));
    edge(7, "BAD: n far off", () -> {
      for (int far : FAR) is(BAD, of(6, 0).line(0, 0, far));
    });
    edge(7, "STATE: another KIND, each", () -> {
      for (int kind = 0; kind < 6; kind++) is(STATE, of(kind, 0).line(0, 0, 0));
    });
    edge(7, "n 0 and n 9", () -> {
      BesideTom x = of(6, 0);
      is(0, x.line(0, 0, 9));
      is(9, x.line(0, 0, 0));
      is(0, x.line(0, 0, 0));
    });
    edge(7, "part 0 and part 3", () -> {
      BesideTom x = of(6, 0, 6, 0);
      x.line(0, 0, 1);
      x.line(0, 3, 2);
      x.line(1, 0, 3);
      x.line(1, 3, 4);
      is(1, x.line(0, 0, 0));
      is(2, x.line(0, 3, 0));
      is(3, x.line(1, 0, 0));
      is(4, x.line(1, 3, 0));
    });
    edge(7, "the first that the words name: NONE of the PUPIL ahead of BAD", () -> is(NONE, of(6, 0).line(1, 0, 10)));
    edge(7, "the first that the words name: NONE of the part ahead of BAD", () -> is(NONE, of(6, 0).line(0, 4, 10)));
    edge(7, "the first that the words name: NONE of the part ahead of STATE", () -> is(NONE, of(0, 0).line(0, 4, 0)));
    edge(7, "the first that the words name: BAD ahead of STATE", () -> is(BAD, of(0, 0).line(0, 0, 10)));
    edge(7, "LINE of the last PUPIL, the last part", () -> {
      BesideTom x = of(0, 0, 0, 0, 0, 0, 0, 0, 0, 0, 6, 0);
      is(0, x.line(5, 3, 9));
      is(9, x.line(5, 3, 9));
    });
  }
}
