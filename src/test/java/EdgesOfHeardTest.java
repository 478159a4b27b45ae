/** Each boundary that the document names in promises 19 to 27, and in the terms that they rest on. */
public final class EdgesOfHeardTest extends Edge {
  private EdgesOfHeardTest() {}

  public static void main(String[] args) {
    hear();
    where();
    can();
    odds();
    mean();
    term();
    termEnds();
    book();
    looked();
    ends("EdgesOfHeardTest");
  }

  private static BesideTom heard(int many) {
    BesideTom x = plain(2);
    for (int i = 0; i < many; i++) x.hear(6, 0);
    return x;
  }

  private static void hear() {
    edge(19, "BAD: NOISE (0 .. 999) too small", () -> is(BAD, new BesideTom().hear(-2, 0)));
    edge(19, "BAD: NOISE (0 .. 999) too large", () -> is(BAD, new BesideTom().hear(1000, 0)));
    edge(19, "BAD: NOISE far off", () -> {
      for (int far : FAR) is(BAD, new BesideTom().hear(far, 0));
    });
    edge(19, "NOISE (0 .. 999): 0 and 999", () -> {
      BesideTom x = new BesideTom();
      is(1, x.hear(0, 0));
      is(2, x.hear(999, 0));
    });
    edge(19, "BAD: n WEEKS (0 .. 20) too few", () -> is(BAD, new BesideTom().hear(0, -1)));
    edge(19, "BAD: n WEEKS (0 .. 20) too many", () -> is(BAD, new BesideTom().hear(0, 21)));
    edge(19, "BAD: n WEEKS far off", () -> {
      for (int far : FAR) is(BAD, new BesideTom().hear(0, far));
    });
    edge(19, "n WEEKS (0 .. 20): 0 and 20", () -> {
      BesideTom x = new BesideTom();
      is(1, x.hear(1, 0));
      is(2, x.hear(1, 20));
    });
    edge(19, "BAD: nothing is heard by it", () -> {
      BesideTom x = heard(2);
      x.hear(1000, 0);
      x.hear(0, 21);
      is(2, x.count(2));
    });
    edge(19, "FULL: 5", () -> {
      BesideTom x = new BesideTom();
      for (int i = 1; i <= 5; i++) is(i, x.hear(i, i));
      is(FULL, x.hear(6, 6));
      is(5, x.count(2));
    });
    edge(19, "FULL: the fifth stays", () -> {
      BesideTom x = heard(5);
      x.hear(0, 0);
      is(0b010111, x.where(0));
    });
    edge(19, "the first that the words name: BAD ahead of FULL", () -> {
      is(BAD, heard(5).hear(1000, 0));
      is(BAD, heard(5).hear(-2, 0));
      is(BAD, heard(5).hear(0, 21));
    });
    edge(19, "(noise -1: none then, 0)", () -> {
      BesideTom x = heard(3);
      is(0, x.hear(-1, 0));
      is(0, x.count(2));
      is(63, x.where(0));
    });
    edge(19, "(noise -1: none then, 0): of none", () -> is(0, new BesideTom().hear(-1, 0)));
    edge(19, "(noise -1: none then, 0): of five", () -> {
      BesideTom x = heard(5);
      is(0, x.hear(-1, 0));
      is(1, x.hear(0, 0));
    });
    edge(19, "(noise -1: whatever the other is)", () -> {
      is(0, heard(2).hear(-1, -1));
      is(0, heard(2).hear(-1, 21));
      for (int far : FAR) is(0, heard(2).hear(-1, far));
    });
  }

  private static void where() {
    edge(20, "NONE: PUPIL -1", () -> is(NONE, plain(6).where(-1)));
    edge(20, "NONE: one who has not come", () -> is(NONE, plain(2).where(2)));
    edge(20, "NONE: PUPIL 6", () -> is(NONE, plain(6).where(6)));
    edge(20, "NONE: nobody", () -> is(NONE, new BesideTom().where(0)));
    edge(20, "NONE: PUPIL far off", () -> {
      for (int far : FAR) is(NONE, plain(6).where(far));
    });
    edge(20, "all of HEARD: nothing is heard", () -> {
      is(63, plain(1).where(0));
      is(63, plain(6).where(5));
    });
    edge(20, "all of HEARD: one is not so", () -> {
      BesideTom x = heard(4);
      is(0b010111, x.where(0));
      x.hear(7, 0);
      is(0, x.where(0));
    });
    edge(20, "all of HEARD: the first is not so", () -> {
      BesideTom x = plain(2);
      x.hear(7, 0);
      for (int i = 0; i < 4; i++) x.hear(6, 0);
      is(0, x.where(0));
    });
    edge(20, "as bits: DESK 0 and DESK 5", () -> {
      BesideTom x = of(4, 0);
      room(x, "chat 1 d=0|d=5");
      x.hear(4, 0);
      is(0b100001, x.where(0));
    });
    edge(20, "(and who has that its own)", () -> {
      BesideTom x = plain(2);
      room(x, "chat 5 p=1&d=0");
      x.hear(11, 0);
      is(0b000010, x.where(0));
    });
    edge(20, "had it that now: the DESK that it has", () -> {
      BesideTom x = plain(2);
      room(x, "chat 5 p=0&d=0");
      x.hear(11, 0);
      is(1, x.where(0));
    });
    edge(20, "WEAR as it is", () -> {
      BesideTom x = plain(2);
      x.pass(3);
      x.hear(8, 0);
      is(0b010111, x.where(0));
      is(3, x.told(1));
    });
    edge(20, "n WEEKS from now: 0 and 20", () -> {
      BesideTom x = plain(2);
      x.hear(6, 0);
      x.hear(18, 20);
      is(0b010111, x.where(0));
      x.hear(20, 20);
      is(0, x.where(0));
    });
    edge(20, "goes on: WEEKS beyond 9999, WEAR 99 at most", () -> {
      BesideTom x = of(6, 0, 0, 0);
      x.line(0, 3, 1);
      x.line(0, 0, 2);
      weeks(x, 9999);
      x.hear(73, 0);
      x.hear(74, 1);
      x.hear(73, 20);
      is(0b010111, x.where(0));
      x.hear(74, 17);
      is(0b010111, x.where(0));
      x.hear(74, 16);
      is(0, x.where(0));
    });
    edge(20, "goes on from how all is: v, CORKS", () -> {
      BesideTom x = of(1, 9, 0, 0);
      x.hear(15, 0);
      is(0b010111, x.where(0));
      BesideTom y = of(0, 0, 5, 0);
      y.hear(1, 0);
      is(0b010111, y.where(0));
    });
    edge(20, "NOISE 0 is heard", () -> {
      BesideTom x = plain(2);
      x.hear(0, 0);
      is(0b101000, x.where(0));
    });
    edge(20, "NOISE 999 is heard", () -> {
      BesideTom x = plain(2);
      room(x, "chat 99 p<2;chat 99 p<2;chat 99 p<2;chat 99 p<2;chat 99 p<2;chat 3 p=0");
      x.hear(999, 0);
      is(0b010111, x.where(0));
    });
  }

  private static void can() {
    edge(21, "NONE: PUPIL -1", () -> is(NONE, plain(6).can(-1, 0)));
    edge(21, "NONE: one who has not come", () -> is(NONE, plain(2).can(2, 0)));
    edge(21, "NONE: PUPIL 6", () -> is(NONE, plain(6).can(6, 1)));
    edge(21, "NONE: nobody", () -> is(NONE, new BesideTom().can(0, 0)));
    edge(21, "NONE: PUPIL far off", () -> {
      for (int far : FAR) is(NONE, plain(6).can(far, 0));
    });
    edge(21, "NONE: what -1", () -> is(NONE, plain(2).can(0, -1)));
    edge(21, "NONE: what 2", () -> is(NONE, plain(2).can(0, 2)));
    edge(21, "NONE: what far off", () -> {
      for (int far : FAR) is(NONE, plain(2).can(0, far));
    });
    edge(21, "how many numbers v (0 .. 9): all", () -> is(10, plain(1).can(0, 0)));
    edge(21, "how many numbers v (0 .. 9): none", () -> {
      BesideTom x = plain(1);
      x.hear(1, 0);
      is(0, x.can(0, 0));
    });
    edge(21, "how many numbers v (0 .. 9): 0 alone", () -> {
      BesideTom x = of(1, 5, 0, 0);
      x.hear(6, 0);
      is(1, x.can(0, 0));
      is(0, x.can(0, 1));
    });
    edge(21, "how many numbers v (0 .. 9): 9 alone", () -> {
      BesideTom x = of(1, 5, 0, 0);
      x.hear(15, 0);
      is(1, x.can(0, 0));
      is(9, x.can(0, 1));
    });
    edge(21, "how many numbers v (0 .. 9): not 10", () -> {
      BesideTom x = of(1, 5, 0, 0);
      x.hear(16, 0);
      is(0, x.can(0, 0));
    });
    edge(21, "the least (-5: none)", () -> {
      BesideTom x = plain(1);
      x.hear(1, 0);
      is(MISSING, x.can(0, 1));
    });
    edge(21, "the least: of all 0", () -> is(0, of(1, 5).can(0, 1)));
    edge(21, "the least: of some", () -> {
      BesideTom x = of(4, 0);
      room(x, "chat 1 v=3|v>6");
      x.hear(4, 0);
      is(4, x.can(0, 0));
      is(3, x.can(0, 1));
    });
    edge(21, "were that its v: its own v is put back", () -> {
      BesideTom x = of(1, 5, 0, 0);
      room(x, "chat 1 v=5");
      x.can(0, 0);
      x.can(1, 1);
      is(5, x.of(0, 1));
      is(0, x.of(1, 1));
      is(4, x.of(0, 10));
      is(3, x.of(1, 10));
      is(4 + 5 + 3, x.told(4));
    });
    edge(21, "all of HEARD is so", () -> {
      BesideTom x = of(1, 5, 0, 0);
      x.hear(8, 0);
      is(1, x.can(0, 0));
      x.hear(9, 0);
      is(0, x.can(0, 0));
    });
  }

  private static void odds() {
    edge(22, "NO: nobody is there", () -> {
      is(NO, new BesideTom().odds(0, 0));
      is(NO, new BesideTom().odds(999, 1));
    });
    edge(22, "ODDS of q (0 .. 999): too small", () -> is(NO, plain(2).odds(-1, 0)));
    edge(22, "ODDS of q (0 .. 999): too large", () -> is(NO, plain(2).odds(1000, 0)));
    edge(22, "ODDS of q (0 .. 999): far off", () -> {
      for (int far : FAR) is(NO, plain(2).odds(far, 1));
    });
    edge(22, "ODDS of q (0 .. 999): 0", () -> {
      is(1, plain(3).odds(0, 0));
      is(3, plain(3).odds(0, 1));
    });
    edge(22, "ODDS of q (0 .. 999): 999", () -> {
      is(1, plain(6).odds(999, 0));
      is(1, plain(6).odds(999, 1));
    });
    edge(22, "part 0 above, 1 below the line: -1", () -> is(NO, plain(2).odds(5, -1)));
    edge(22, "part 0 above, 1 below the line: 2", () -> is(NO, plain(2).odds(5, 2)));
    edge(22, "part 0 above, 1 below the line: far off", () -> {
      for (int far : FAR) is(NO, plain(2).odds(5, far));
    });
    edge(22, "NOISE is q or less: just so, 1 more", () -> {
      is(1, plain(3).odds(6, 1));
      is(3, plain(3).odds(5, 1));
    });
    edge(22, "a fraction in lowest terms: 0", () -> {
      is(0, plain(6).odds(0, 0));
      is(1, plain(6).odds(0, 1));
    });
    edge(22, "a fraction in lowest terms: 1", () -> {
      is(1, plain(5).odds(999, 0));
      is(1, plain(5).odds(999, 1));
    });
    edge(22, "a fraction in lowest terms: 2 of 4, 2 of 6", () -> {
      is(1, plain(4).odds(6, 0));
      is(2, plain(4).odds(6, 1));
      // 42 of all; without 1, or 4, which have three NEIGHBOURS, 24.
      is(1, plain(6).odds(24, 0));
      is(3, plain(6).odds(24, 1));
      is(0, plain(6).odds(23, 0));
    });
    edge(22, "a fraction in lowest terms: 4 of 6", () -> {
      // The other four sit two by two: 24, and 12 without one of them.
      BesideTom x = plain(6);
      x.away(0, true);
      x.away(3, true);
      is(2, x.odds(12, 0));
      is(3, x.odds(12, 1));
      is(0, x.odds(11, 0));
      is(1, x.odds(24, 0));
    });
    edge(22, "NOISE now, not a WEEK on", () -> {
      BesideTom x = still(3);
      is(1, x.odds(0, 0));
      is(1, x.odds(0, 1));
      x.pass(1);
      is(1, x.odds(1, 0));
      is(3, x.odds(1, 1));
      is(1, x.odds(2, 1));
    });
    edge(22, "one of all: one alone", () -> {
      BesideTom x = of(4, 0);
      is(1, x.odds(0, 0));
      is(1, x.odds(0, 1));
    });
    edge(22, "one of all: one who is AWAY already, too", () -> {
      BesideTom x = plain(3);
      x.away(0, true);
      is(2, x.odds(0, 0));
      is(3, x.odds(0, 1));
    });
    edge(22, "one of all: all are AWAY already", () -> {
      BesideTom x = plain(2);
      x.away(0, true);
      x.away(1, true);
      is(1, x.odds(0, 0));
      is(1, x.odds(0, 1));
    });
  }

  private static void mean() {
    edge(23, "NO: nobody is there", () -> {
      is(NO, new BesideTom().mean(0));
      is(NO, new BesideTom().mean(1));
    });
    edge(23, "part likewise: -1", () -> is(NO, plain(1).mean(-1)));
    edge(23, "part likewise: 2", () -> is(NO, plain(1).mean(2)));
    edge(23, "part likewise: far off", () -> {
      for (int far : FAR) is(NO, plain(1).mean(far));
    });
    edge(23, "a fraction in lowest terms: one alone", () -> {
      is(10, plain(1).mean(0));
      is(1, plain(1).mean(1));
    });
    edge(23, "a fraction in lowest terms: 0", () -> {
      BesideTom x = plain(6);
      room(x, "cost 1");
      is(0, x.mean(0));
      is(1, x.mean(1));
    });
    edge(23, "a fraction in lowest terms: nothing to cut", () -> {
      BesideTom x = of(5, 1, 0, 0, 5, 0);
      for (int p = 0; p < 3; p++) x.move(p, p * 2);
      is(29, x.mean(0));
      is(3, x.mean(1));
    });
    edge(23, "a fraction in lowest terms: 40 by 6", () -> {
      BesideTom x = plain(6);
      x.away(0, true);
      x.away(3, true);
      room(x, "cost 99");
      is(20, x.mean(0));
      is(3, x.mean(1));
    });
    edge(23, "LEARNS by NOISE now, not a WEEK on", () -> {
      BesideTom x = still(2);
      is(10, x.mean(0));
      x.pass(1);
      is(8, x.mean(0));
    });
    edge(23, "by how many they are: who is AWAY too", () -> {
      BesideTom x = plain(2);
      x.away(0, true);
      is(5, x.mean(0));
      is(1, x.mean(1));
    });
    edge(23, "by how many they are: all are AWAY", () -> {
      BesideTom x = plain(3);
      for (int p = 0; p < 3; p++) x.away(p, true);
      is(0, x.mean(0));
      is(1, x.mean(1));
    });
  }

  private static BesideTom goes(int many) {
    BesideTom x = plain(2);
    for (int i = 0; i < many; i++) x.term(0, 0);
    return x;
  }

  private static void term() {
    edge(24, "NONE: what (0 .. 3), -2", () -> is(NONE, plain(6).term(-2, 0)));
    edge(24, "NONE: what (0 .. 3), 4", () -> is(NONE, plain(6).term(4, 0)));
    edge(24, "NONE: what far off", () -> {
      for (int far : FAR) is(NONE, plain(6).term(far, 0));
    });
    edge(24, "NONE: PUPIL (by 1)", () -> {
      is(NONE, plain(2).term(1, -1));
      is(NONE, plain(2).term(1, 2));
      is(NONE, plain(6).term(1, 6));
      is(NONE, new BesideTom().term(1, 0));
      for (int far : FAR) is(NONE, plain(6).term(1, far));
    });
    edge(24, "NONE: PUPIL (by 2)", () -> {
      is(NONE, plain(2).term(2, -1));
      is(NONE, plain(2).term(2, 2));
      is(NONE, plain(6).term(2, 6));
      is(NONE, new BesideTom().term(2, 0));
      for (int far : FAR) is(NONE, plain(6).term(2, far));
    });
    edge(24, "PUPIL (by 1, 2): the first and the last", () -> {
      BesideTom x = plain(6);
      is(1, x.term(1, 0));
      is(2, x.term(1, 5));
      is(3, x.term(2, 0));
      is(4, x.term(2, 5));
    });
    edge(24, "NONE: PUPIL (by 3 there is none)", () -> {
      for (int d = 0; d < 6; d++) is(NONE, new BesideTom().term(3, d));
    });
    edge(24, "by 3: one is enough", () -> {
      is(1, plain(1).term(3, 0));
      is(1, plain(1).term(3, 5));
    });
    edge(24, "NONE: DESK (by 3)", () -> {
      is(NONE, plain(6).term(3, -1));
      is(NONE, plain(6).term(3, 6));
      for (int far : FAR) is(NONE, plain(6).term(3, far));
    });
    edge(24, "by 0 n does not matter", () -> {
      is(1, plain(1).term(0, -1));
      is(1, plain(1).term(0, 6));
      for (int far : FAR) is(1, plain(1).term(0, far));
    });
    edge(24, "by 0 n does not matter: nor in what it does", () -> {
      BesideTom x = plain(1);
      for (int far : FAR) x.term(0, far);
      is(40, x.ends(1));
    });
    edge(24, "by 0 nobody need be there", () -> is(1, new BesideTom().term(0, 0)));
    edge(24, "NONE: nothing comes", () -> {
      BesideTom x = goes(2);
      x.term(4, 0);
      x.term(1, 2);
      x.term(3, 6);
      is(2, x.count(3));
    });
    edge(24, "FULL: 10", () -> {
      BesideTom x = plain(1);
      for (int i = 1; i <= 10; i++) is(i, x.term(0, 0));
      is(FULL, x.term(0, 0));
      is(10, x.count(3));
    });
    edge(24, "FULL: by each what", () -> {
      for (int what = 0; what <= 3; what++) is(FULL, goes(10).term(what, 1));
    });
    edge(24, "the first that the words name: NONE ahead of FULL", () -> {
      is(NONE, goes(10).term(4, 0));
      is(NONE, goes(10).term(-2, 0));
      is(NONE, goes(10).term(1, 2));
      is(NONE, goes(10).term(2, -1));
      is(NONE, goes(10).term(3, 6));
    });
    edge(24, "(what -1: it is empty then, 0)", () -> {
      BesideTom x = goes(3);
      is(0, x.term(-1, 0));
      is(0, x.count(3));
      is(0, x.ends(1));
    });
    edge(24, "(what -1: it is empty then, 0): it is so already", () -> is(0, new BesideTom().term(-1, 0)));
    edge(24, "(what -1: it is empty then, 0): of ten", () -> {
      BesideTom x = goes(10);
      is(0, x.term(-1, 0));
      is(1, x.term(0, 0));
    });
    edge(24, "(what -1: whatever the other is)", () -> {
      is(0, goes(2).term(-1, -1));
      for (int far : FAR) is(0, goes(2).term(-1, far));
    });
  }

  private static void termEnds() {
    edge(25, "NONE: what -1", () -> is(NONE, goes(1).ends(-1)));
    edge(25, "NONE: what 2", () -> is(NONE, goes(1).ends(2)));
    edge(25, "NONE: what far off", () -> {
      for (int far : FAR) is(NONE, goes(1).ends(far));
    });
    edge(25, "an empty TERM: how all is", () -> {
      BesideTom x = plain(2);
      x.pass(3);
      is(8, x.ends(0));
      is(54, x.ends(1));
    });
    edge(25, "nobody", () -> {
      is(0, new BesideTom().ends(0));
      is(0, new BesideTom().ends(1));
    });
    edge(25, "ten rows, the tenth too", () -> {
      BesideTom x = goes(9);
      x.move(1, 5);
      is(180, x.ends(1));
      x.term(0, 0);
      is(200, x.ends(1));
      is(0, x.told(0));
    });
    edge(25, "0 a WEEK: WEAR", () -> {
      BesideTom x = goes(2);
      is(6, x.ends(0));
      x.term(0, 0);
      is(8, x.ends(0));
    });
    edge(25, "goes on: KNOWS beyond 9999", () -> {
      BesideTom x = plain(1);
      x.knows(0, 9999);
      x.term(0, 0);
      is(10009, x.ends(1));
    });
    edge(25, "goes on: WEEKS beyond 9999, WEAR 99 at most", () -> {
      BesideTom x = of(6, 0, 0, 0);
      for (int part = 0; part < 4; part++) x.line(0, part, part + 1);
      weeks(x, 9999);
      is(6 + 66 + 4, x.ends(0));
      x.term(0, 0);
      is(6 + 66 + 1, x.ends(0));
    });
    edge(25, "1 PUPIL n is AWAY, if it is already; 2 it is not, if it is not", () -> {
      BesideTom x = plain(2);
      x.term(2, 0);
      is(6, x.ends(0));
      x.term(1, 0);
      x.term(1, 0);
      is(0, x.ends(0));
      x.term(2, 0);
      is(6, x.ends(0));
      is(0, x.of(0, 4));
    });
    edge(25, "goes on from how all is: v, CORKS, the LINE", () -> {
      is(15, of(1, 9, 0, 0).ends(0));
      is(1, of(0, 0, 5, 0).ends(0));
      BesideTom x = of(0, 0, 6, 0);
      x.move(1, 5);
      x.line(1, 1, 7);
      x.term(0, 0);
      is(7, x.ends(0));
    });
    edge(25, "1 PUPIL n is AWAY: of the last", () -> {
      BesideTom x = plain(6);
      x.term(1, 5);
      is(30, x.ends(0));
      x.term(2, 5);
      is(42, x.ends(0));
    });
    edge(25, "3 PUPIL 0 MOVES: WEAR is 0 then (also if it has it already)", () -> {
      BesideTom x = plain(2);
      x.pass(3);
      x.term(3, 0);
      is(6, x.ends(0));
      is(3, x.told(1));
    });
    edge(25, "3 PUPIL 0 MOVES: who has that gets the DESK it had", () -> {
      BesideTom x = plain(3);
      x.term(3, 2);
      x.term(1, 0);
      // At DESKS 0 and 1 there are PUPILS 2 and 1 then.
      is(6, x.ends(0));
      is(0, x.of(0, 2));
      is(0, x.of(0, 4));
    });
    edge(25, "3 PUPIL 0 MOVES: to the first and to the last DESK", () -> {
      BesideTom x = plain(2);
      x.term(3, 5);
      is(0, x.ends(0));
      x.term(3, 0);
      is(6, x.ends(0));
    });
  }

  private static BesideTom booked(int many) {
    BesideTom x = plain(2);
    for (int i = 0; i < many; i++) x.book(0, 0);
    return x;
  }

  private static void book() {
    edge(26, "NONE: PUPIL -2", () -> is(NONE, plain(6).book(-2, 0)));
    edge(26, "NONE: one who has not come", () -> is(NONE, plain(2).book(2, 0)));
    edge(26, "NONE: PUPIL 6", () -> is(NONE, plain(6).book(6, 0)));
    edge(26, "NONE: nobody", () -> is(NONE, new BesideTom().book(0, 0)));
    edge(26, "NONE: PUPIL far off", () -> {
      for (int far : FAR) is(NONE, plain(6).book(far, 0));
    });
    edge(26, "NONE: DESK -1", () -> is(NONE, plain(2).book(0, -1)));
    edge(26, "NONE: DESK 6", () -> is(NONE, plain(2).book(0, 6)));
    edge(26, "NONE: DESK far off", () -> {
      for (int far : FAR) is(NONE, plain(2).book(0, far));
    });
    edge(26, "NONE: no row comes", () -> {
      BesideTom x = booked(2);
      x.book(2, 0);
      x.book(0, 6);
      x.book(0, -1);
      is(2, x.count(4));
    });
    edge(26, "PUPIL and DESK, the first and the last", () -> {
      BesideTom x = plain(6);
      is(1, x.book(0, 5));
      is(2, x.book(5, 0));
    });
    edge(26, "FULL: 8", () -> {
      BesideTom x = plain(1);
      for (int i = 1; i <= 8; i++) is(i, x.book(0, 0));
      is(FULL, x.book(0, 0));
      is(8, x.count(4));
    });
    edge(26, "the first that the words name: NONE ahead of FULL", () -> {
      is(NONE, booked(8).book(2, 0));
      is(NONE, booked(8).book(-2, 0));
      is(NONE, booked(8).book(0, 6));
    });
    edge(26, "(pupil -1: it is empty then, 0)", () -> {
      BesideTom x = booked(3);
      is(0, x.book(-1, 0));
      is(0, x.count(4));
    });
    edge(26, "(pupil -1: it is empty then, 0): it is so already", () -> is(0, new BesideTom().book(-1, 0)));
    edge(26, "(pupil -1: it is empty then, 0): of eight", () -> {
      BesideTom x = booked(8);
      is(0, x.book(-1, 0));
      is(1, x.book(0, 0));
    });
    edge(26, "(pupil -1: whatever the other is)", () -> {
      is(0, booked(2).book(-1, -1));
      is(0, booked(2).book(-1, 6));
      for (int far : FAR) is(0, booked(2).book(-1, far));
    });
  }

  private static void looked() {
    edge(27, "(-5: none): an empty BOOK", () -> {
      is(MISSING, new BesideTom().looked());
      is(MISSING, plain(2).looked());
    });
    edge(27, "(-5: none): all is so", () -> is(MISSING, booked(8).looked()));
    edge(27, "the first of these rows: the first of all", () -> {
      BesideTom x = plain(2);
      x.book(0, 1);
      x.book(1, 0);
      is(0, x.looked());
    });
    edge(27, "the first of these rows: the last of eight", () -> {
      BesideTom x = booked(7);
      x.book(1, 0);
      is(7, x.looked());
    });
    edge(27, "the number of the row, not of the PUPIL", () -> {
      BesideTom x = plain(3);
      x.book(2, 2);
      x.book(2, 5);
      is(1, x.looked());
    });
    edge(27, "by which it is otherwise now", () -> {
      BesideTom x = booked(1);
      is(MISSING, x.looked());
      x.move(1, 0);
      is(0, x.looked());
      x.move(1, 1);
      is(MISSING, x.looked());
    });
    edge(27, "emptied", () -> {
      BesideTom x = plain(1);
      x.book(0, 3);
      x.book(-1, 0);
      is(MISSING, x.looked());
    });
  }
}
