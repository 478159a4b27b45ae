import java.util.function.Consumer;
import java.util.function.Supplier;
import java.util.function.ToLongFunction;

/**
 * "What is answered so changes nothing; what is asked changes nothing." Two objects are made alike; one is asked, or
 * refuses a call; then all that can be seen of the two is alike, by what only shows when all goes on from there, too.
 */
public final class EdgesOfRefusalsTest extends Edge {
  private EdgesOfRefusalsTest() {}

  public static void main(String[] args) {
    differ();
    refusedPupils();
    refusedRooms();
    refusedRows();
    refusedTapes();
    askedOfAll();
    askedOfOne();
    ends("EdgesOfRefusalsTest");
  }

  /** Something of all there is, nothing of it full. */
  private static BesideTom rich() {
    BesideTom x = of(6, 3, 1, 4);
    x.knows(0, 11);
    x.image();
    room(x, "wear 2;cost 5");
    x.pupil(4, 5);
    x.pupil(5, 2);
    x.pupil(3, 1);
    room(x, "chat 2 d=1|k=4;hush 1 v>3;wear 4;cost 6");
    for (int part = 0; part < 4; part++) x.line(0, part, part + 2);
    x.move(2, 5);
    x.pass(7);
    x.away(1, true);
    x.knows(1, 333);
    x.hear(x.on(0, 0), 0);
    x.hear(x.on(3, 0), 3);
    x.term(0, 0);
    x.term(1, 2);
    x.term(3, 4);
    x.book(0, 0);
    x.book(2, 5);
    x.tape(0, 0, 6);
    for (int p = 0; p < 5; p++) x.item(0, p, x.of(p, 2));
    x.tape(1, 2, 4);
    x.item(1, 2, 99);
    x.tape(3, 4, 2);
    x.item(3, 1, 1);
    feed(x, "hush 1 p=2|");
    x.act(0, 2, 3);
    return x;
  }

  /** All is full. */
  private static BesideTom full() {
    BesideTom x = of(6, 3, 1, 4, 2, 5, 5, 2, 4, 1, 0, 9);
    x.pass(60);
    x.image();
    for (int i = 0; i < 6; i++) room(x, "wear 4" + i);
    for (int i = 0; i < 5; i++) x.hear(x.on(0, 0), 0);
    for (int i = 0; i < 10; i++) x.term(i % 4, i % 5);
    for (int i = 0; i < 8; i++) x.book(i % 6, i % 6);
    for (int tape = 0; tape < 6; tape++) x.tape(tape, tape % 5, tape * 12);
    for (int i = 0; i < 100; i++) x.feed('x');
    x.act(0, 2, 3);
    return x;
  }

  private static BesideTom atTheEnd() {
    BesideTom x = of(6, 3, 1, 4);
    weeks(x, 9999);
    x.knows(0, 5);
    x.move(0, 3);
    return x;
  }

  private static final class Seen {
    private final StringBuilder all = new StringBuilder();
    private final BesideTom x;

    private Seen(BesideTom x) {
      this.x = x;
    }

    private void put(long answer) {
      all.append(answer).append(' ');
    }

    static String of(BesideTom x) {
      Seen seen = new Seen(x);
      seen.traceAndCounts();
      seen.pupils();
      seen.questions();
      seen.tapes();
      seen.textAndRooms();
      seen.rowsByTheirEnds();
      seen.linesAndImage();
      return seen.all.toString();
    }

    private void traceAndCounts() {
      for (int i = 0; i < 13; i++) put(x.trace(i));
      for (int what = 0; what < 7; what++) put(x.count(what));
      for (int what = 0; what < 16; what++) put(x.told(what));
    }

    private void pupils() {
      for (int p = 0; p < 6; p++) {
        for (int what = 0; what < 11; what++) put(x.of(p, what));
        put(x.of(p, 15));
        put(x.on(3, 10 + p));
      }
    }

    private void questions() {
      for (int n = 0; n < 4; n++) put(x.on(n, 0));
      for (int what = 0; what < 2; what++) put(x.ends(what));
      for (int p = 0; p < 6; p++) put(x.where(p) * 100 + x.can(p, 0));
      put(x.looked());
      put(x.judge(0, 0));
    }

    private void tapes() {
      for (int tape = 0; tape < 6; tape++) {
        put(x.shift(tape, 0, tape, 0, 0));
        for (int i = 0; i < 60; i += 1 + i / 2) put(x.read(tape, i));
        put(x.item(tape, 1, -2));
        put(x.read(tape, 1));
      }
    }

    private void textAndRooms() {
      put(x.feed('p'));
      put(x.feed('='));
      put(x.feed('3'));
      put(x.room());
      put(x.told(2));
      put(x.told(3));
      for (int p = 0; p < 6; p++) put(x.of(p, 10));
      put(x.count(1));
    }

    /** What is HEARD, the TERM and the BOOK, each by what one more brings. */
    private void rowsByTheirEnds() {
      put(x.hear(x.on(0, 0), 0));
      for (int p = 0; p < 6; p++) put(x.where(p));
      put(x.term(0, 0));
      put(x.ends(1));
      put(x.book(0, 1));
      put(x.looked());
      put(x.pass(1));
      put(x.told(5));
    }

    private void linesAndImage() {
      for (int part = 0; part < 4; part++) put(x.line(0, part, 0));
      put(x.undo());
      for (int what = 0; what < 7; what++) put(x.told(what));
      put(x.looked());
      put(x.ends(1));
      put(x.where(0));
      put(x.pupil(0, 7));
      for (int p = 0; p < 3; p++) for (int what = 0; what < 16; what += 2) put(x.of(p, what));
    }
  }

  private static void alike(Supplier<BesideTom> made, Consumer<BesideTom> call) {
    BesideTom x = made.get();
    call.accept(x);
    is(0, Seen.of(made.get()).equals(Seen.of(x)) ? 0 : 1);
  }

  /** That two objects that are not alike are seen not to be: else the rest would say nothing. */
  private static void differ() {
    differ("a PUPIL", x -> x.pupil(0, 0));
    differ("a DESK", x -> x.move(0, 3));
    differ("AWAY", x -> x.away(1, false));
    differ("KNOWS", x -> x.knows(4, 1));
    differ("the LINE", x -> x.line(0, 2, 9));
    differ("THE TEXT", x -> x.feed('!'));
    differ("a ROOM", x -> {
      feed(x, "p=2");
      x.room();
      feed(x, "hush 1 p=2|");
    });
    differ("a WEEK", x -> x.pass(1));
    differ("HEARD", x -> x.hear(1, 1));
    differ("the TERM", x -> x.term(2, 1));
    differ("the BOOK", x -> x.book(0, 1));
    differ("an item", x -> x.item(1, 0, 1));
    differ("a TAPE", x -> x.tape(2, 0, 0));
    differ("THE IMAGE", x -> x.image());
    differ("THE TRACE", x -> x.act(0, 0, 0));
  }

  private static void differ(String what, Consumer<BesideTom> call) {
    edge(1, "two objects are told from each other by " + what, () -> {
      BesideTom x = rich();
      call.accept(x);
      is(1, Seen.of(rich()).equals(Seen.of(x)) ? 0 : 1);
    });
  }

  private static void refused(int promise, String words, Supplier<BesideTom> made, long due, ToLongFunction<BesideTom> call) {
    edge(promise, words + ": what is answered so changes nothing", () -> {
      alike(made, x -> is(due, call.applyAsLong(x)));
    });
  }

  private static void refusedPupils() {
    refused(2, "NONE: kind", EdgesOfRefusalsTest::rich, NONE, x -> x.pupil(7, 0));
    refused(2, "BAD: v", EdgesOfRefusalsTest::rich, BAD, x -> x.pupil(0, 10));
    refused(2, "FULL: 6", EdgesOfRefusalsTest::full, FULL, x -> x.pupil(0, 0));
    refused(3, "NONE: the PUPIL", EdgesOfRefusalsTest::rich, NONE, x -> x.of(5, 0));
    refused(3, "NONE: what", EdgesOfRefusalsTest::rich, NONE, x -> x.of(0, 9));
    refused(4, "NONE: the PUPIL", EdgesOfRefusalsTest::rich, NONE, x -> x.move(5, 0));
    refused(4, "NONE: the DESK, too small", EdgesOfRefusalsTest::rich, NONE, x -> x.move(0, -1));
    refused(4, "NONE: the DESK, too large", EdgesOfRefusalsTest::full, NONE, x -> x.move(0, 6));
    refused(5, "NONE", EdgesOfRefusalsTest::rich, NONE, x -> x.away(5, true));
    refused(5, "NONE: -1", EdgesOfRefusalsTest::full, NONE, x -> x.away(-1, true));
    refused(6, "NONE", EdgesOfRefusalsTest::rich, NONE, x -> x.knows(5, 1));
    refused(6, "BAD: too large", EdgesOfRefusalsTest::rich, BAD, x -> x.knows(0, 10000));
    refused(6, "BAD: too small", EdgesOfRefusalsTest::rich, BAD, x -> x.knows(0, -1));
    refused(7, "NONE: the PUPIL", EdgesOfRefusalsTest::rich, NONE, x -> x.line(5, 0, 1));
    refused(7, "NONE: the part", EdgesOfRefusalsTest::rich, NONE, x -> x.line(0, 4, 1));
    refused(7, "NONE: the part, too small", EdgesOfRefusalsTest::rich, NONE, x -> x.line(0, -1, 1));
    refused(7, "BAD", EdgesOfRefusalsTest::rich, BAD, x -> x.line(0, 0, 10));
    refused(7, "STATE", EdgesOfRefusalsTest::rich, STATE, x -> x.line(1, 0, 1));
  }

  private static void refusedRooms() {
    refused(8, "BAD", EdgesOfRefusalsTest::rich, BAD, x -> x.feed(128));
    refused(8, "BAD: too small", EdgesOfRefusalsTest::rich, BAD, x -> x.feed(-1));
    refused(8, "FULL", EdgesOfRefusalsTest::full, FULL, x -> x.feed('x'));
    refused(9, "FULL (THE TEXT stays)", EdgesOfRefusalsTest::full, FULL, x -> x.room());
    edge(9, "-10 less the FAULT: but for THE TEXT it changes nothing", () -> {
      alike(EdgesOfRefusalsTest::rich, x -> {
        is(-10 - 11, x.room());
        feed(x, "hush 1 p=2|");
      });
    });
    refused(10, "NONE", EdgesOfRefusalsTest::rich, NONE, x -> x.told(9));
    refused(11, "BAD", EdgesOfRefusalsTest::rich, BAD, x -> x.pass(61));
    refused(11, "BAD: too small", EdgesOfRefusalsTest::rich, BAD, x -> x.pass(-1));
    refused(11, "STATE: WEEK would be above 9999", EdgesOfRefusalsTest::atTheEnd, STATE, x -> x.pass(1));
    refused(12, "NONE", EdgesOfRefusalsTest::rich, NONE, x -> x.on(1, 15));
    refused(12, "BAD: n", EdgesOfRefusalsTest::rich, BAD, x -> x.on(61, 1));
    refused(13, "BAD", EdgesOfRefusalsTest::rich, BAD, x -> x.loud(1000));
    refused(14, "NONE", EdgesOfRefusalsTest::rich, NONE, x -> x.quietest(15));
    refused(15, "NONE", EdgesOfRefusalsTest::rich, NONE, x -> x.wisest(15));
    refused(16, "NONE", EdgesOfRefusalsTest::rich, NONE, x -> x.seat(5));
    refused(17, "NONE", EdgesOfRefusalsTest::rich, NONE, x -> x.best(2));
    refused(18, "BAD", EdgesOfRefusalsTest::rich, BAD, x -> x.few(1000));
  }

  private static void refusedRows() {
    refused(19, "BAD: noise", EdgesOfRefusalsTest::rich, BAD, x -> x.hear(1000, 0));
    refused(19, "BAD: n", EdgesOfRefusalsTest::rich, BAD, x -> x.hear(0, 21));
    refused(19, "FULL: 5", EdgesOfRefusalsTest::full, FULL, x -> x.hear(0, 0));
    refused(20, "NONE", EdgesOfRefusalsTest::rich, NONE, x -> x.where(5));
    refused(21, "NONE: the PUPIL", EdgesOfRefusalsTest::rich, NONE, x -> x.can(5, 0));
    refused(21, "NONE: what", EdgesOfRefusalsTest::rich, NONE, x -> x.can(0, 2));
    refused(22, "NO: q", EdgesOfRefusalsTest::rich, NO, x -> x.odds(1000, 0));
    refused(22, "NO: part", EdgesOfRefusalsTest::rich, NO, x -> x.odds(5, 2));
    refused(23, "NO", EdgesOfRefusalsTest::rich, NO, x -> x.mean(2));
    refused(24, "NONE: what", EdgesOfRefusalsTest::rich, NONE, x -> x.term(4, 0));
    refused(24, "NONE: PUPIL", EdgesOfRefusalsTest::rich, NONE, x -> x.term(1, 5));
    refused(24, "NONE: DESK", EdgesOfRefusalsTest::rich, NONE, x -> x.term(3, 6));
    refused(24, "FULL: 10", EdgesOfRefusalsTest::full, FULL, x -> x.term(0, 0));
    refused(25, "NONE", EdgesOfRefusalsTest::rich, NONE, x -> x.ends(2));
    refused(26, "NONE: pupil", EdgesOfRefusalsTest::rich, NONE, x -> x.book(5, 0));
    refused(26, "NONE: desk", EdgesOfRefusalsTest::rich, NONE, x -> x.book(0, 6));
    refused(26, "FULL: 8", EdgesOfRefusalsTest::full, FULL, x -> x.book(0, 0));
  }

  private static void refusedTapes() {
    refused(28, "NONE: tape", EdgesOfRefusalsTest::rich, NONE, x -> x.judge(6, 0));
    refused(28, "CAST", EdgesOfRefusalsTest::rich, CAST, x -> x.judge(1, 0));
    edge(30, "STATE: there is none: what is answered so changes nothing", () -> {
      alike(() -> plain(3), x -> is(STATE, x.undo()));
    });
    edge(31, "0, and no TRACE then: but for THE TRACE it changes nothing", () -> {
      alike(EdgesOfRefusalsTest::rich, x -> {
        is(0, x.act(5, 0, 1));
        is(0, x.act(0, 3, 1));
        x.act(0, 2, 3);
      });
    });
    refused(32, "NONE", EdgesOfRefusalsTest::rich, NONE, x -> x.trace(12));
    refused(33, "BAD: k", EdgesOfRefusalsTest::rich, BAD, x -> x.taken(0, 7));
    refused(33, "NOTHING", EdgesOfRefusalsTest::rich, NOTHING, x -> x.taken(5, 0));
    refused(33, "CAST", EdgesOfRefusalsTest::rich, CAST, x -> x.taken(0, 5));
    refused(34, "BAD", EdgesOfRefusalsTest::rich, BAD, x -> x.count(7));
    refused(35, "NONE: tape", EdgesOfRefusalsTest::rich, NONE, x -> x.tape(6, 0, 1));
    refused(35, "BAD: sort", EdgesOfRefusalsTest::rich, BAD, x -> x.tape(1, 5, 1));
    refused(35, "BAD: n above 60", EdgesOfRefusalsTest::rich, BAD, x -> x.tape(1, 2, 61));
    refused(35, "SIZE", EdgesOfRefusalsTest::rich, SIZE, x -> x.tape(1, 2, -1));
    refused(36, "NONE", EdgesOfRefusalsTest::rich, NONE, x -> x.item(6, 0, 1));
    refused(36, "NOTHING", EdgesOfRefusalsTest::rich, NOTHING, x -> x.item(2, 0, 1));
    refused(36, "PLACE", EdgesOfRefusalsTest::rich, PLACE, x -> x.item(1, 4, 1));
    refused(37, "NO", EdgesOfRefusalsTest::rich, NO, x -> x.read(1, 4));
    refused(38, "NONE: tapes", EdgesOfRefusalsTest::rich, NONE, x -> x.shift(1, 0, 6, 0, 1));
    refused(38, "NOTHING", EdgesOfRefusalsTest::rich, NOTHING, x -> x.shift(1, 0, 2, 0, 1));
    refused(38, "CAST", EdgesOfRefusalsTest::rich, CAST, x -> x.shift(1, 0, 0, 0, 1));
    refused(38, "PLACE: behind some that would do", EdgesOfRefusalsTest::rich, PLACE, x -> x.shift(1, 2, 1, 1, 3));
    refused(38, "PLACE: of the other, behind some that would do", EdgesOfRefusalsTest::rich, PLACE, x -> x.shift(1, 1, 1, 2, 3));
  }

  private static void asked(int promise, String words, Consumer<BesideTom> call) {
    edge(promise, words + ": what is asked changes nothing", () -> {
      alike(EdgesOfRefusalsTest::rich, call);
      alike(EdgesOfRefusalsTest::full, call);
    });
  }

  private static void askedOfAll() {
    asked(10, "told", x -> {
      for (int what = 0; what < 16; what++) x.told(what);
    });
    asked(12, "ON", x -> {
      for (int what = 0; what < 16; what++) x.on(60, what);
    });
    asked(13, "LOUD", x -> x.loud(999));
    asked(14, "QUIETEST", x -> {
      x.quietest(0);
      x.quietest(11);
    });
    asked(15, "WISEST", x -> {
      x.wisest(0);
      x.wisest(11);
    });
    asked(17, "CHANGE", x -> x.best(0));
    asked(17, "WORST", x -> x.best(1));
    asked(18, "FEW", x -> {
      x.few(0);
      x.few(x.quietest(0));
      x.few(x.told(4) - 1);
    });
    asked(22, "ODDS", x -> {
      x.odds(0, 0);
      x.odds(999, 1);
    });
    asked(23, "MEAN", x -> {
      x.mean(0);
      x.mean(1);
    });
    asked(25, "ENDS", x -> {
      x.ends(0);
      x.ends(1);
    });
    asked(27, "LOOKED at", x -> x.looked());
    asked(28, "JUDGED", x -> {
      for (int i = -1; i < 6; i++) x.judge(0, i);
    });
    asked(32, "THE TRACE", x -> x.trace(0));
    asked(34, "count", x -> {
      for (int what = 0; what < 7; what++) x.count(what);
    });
    asked(37, "read", x -> {
      for (int tape = 0; tape < 6; tape++) x.read(tape, 0);
    });
  }

  private static void askedOfOne() {
    asked(3, "of", x -> {
      for (int what = 0; what < 16; what++) x.of(1, what);
    });
    asked(16, "SEAT", x -> {
      for (int p = 0; p < 5; p++) x.seat(p);
    });
    asked(20, "WHERE", x -> {
      for (int p = 0; p < 5; p++) x.where(p);
    });
    asked(21, "CAN", x -> {
      for (int p = 0; p < 5; p++) x.can(p, 1);
    });
    asked(33, "taken", x -> {
      for (int k = 0; k < 7; k++) x.taken(1, k);
    });
    edge(29, "THE IMAGE is taken: all else stays", () -> {
      alike(() -> {
        BesideTom x = rich();
        x.image();
        return x;
      }, x -> x.image());
    });
    edge(31, "an ACT: but for THE TRACE it changes nothing", () -> {
      alike(EdgesOfRefusalsTest::rich, x -> {
        for (int p = 0; p < 5; p++) for (int act = 0; act < 3; act++) x.act(p, act, 77);
        x.act(0, 2, 3);
      });
    });
  }
}
