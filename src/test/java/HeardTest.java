/** Promises 19 to 23: hear, where, can, odds, mean. */
public final class HeardTest {
  private HeardTest() {}

  public static void main(String[] args) {
    hear();
    where();
    whereByWeeks();
    can();
    odds();
    mean();
    Due.ends("HeardTest");
  }

  private static void hear() {
    BesideTom x = new BesideTom();
    Due.is(1, x.hear(0, 0), "19 the first");
    Due.is(2, x.hear(999, 20), "19 the second");
    Due.is(-2, x.hear(1000, 0), "19 noise above 999");
    Due.is(-2, x.hear(-2, 0), "19 noise below -1");
    Due.is(-2, x.hear(0, -1), "19 n below 0");
    Due.is(-2, x.hear(0, 21), "19 n above 20");
    for (int i = 3; i <= 5; i++) Due.is(i, x.hear(5, i), "19 number " + i);
    Due.is(-4, x.hear(0, 0), "19 full");
    Due.is(-2, x.hear(0, 21), "19 bad ahead of full");
    Due.is(5, x.count(2), "19 five");
    Due.is(0, x.hear(-1, 77), "19 none then");
    Due.is(0, x.count(2), "19 none");
    Due.is(1, x.hear(7, 7), "19 the first again");
    Due.is(0, x.hear(-1, -1), "19 none again");
  }

  private static void where() {
    BesideTom x = Due.of(0, 0, 0, 0);
    Due.is(63, x.where(0), "20 nothing is heard: all desks");
    x.hear(6, 0);
    Due.is(0b010111, x.where(0), "20 next to 1, or at 1 with the other at 0");
    Due.is(0b001011, x.where(1), "20 next to 0, or at 0 with the other at 1");
    Due.is(0, x.of(0, 2), "20 nobody moves");
    x.hear(-1, 0);
    x.hear(0, 0);
    Due.is(0b101000, x.where(0), "20 apart");
    x.hear(6, 0);
    Due.is(0, x.where(0), "20 one thing and another is nowhere");
    Due.is(-1, x.where(2), "20 no such pupil");
    Due.is(-1, x.where(-1), "20 pupil -1");
  }

  private static void whereByWeeks() {
    BesideTom x = Due.of(0, 0, 6, 0);
    x.line(1, 0, 5);
    x.pass(3);
    // WEAR is 3, WEEK is 3: 8 now, 13 a week on, 10 in three weeks, 15 in five.
    x.hear(8, 0);
    Due.is(0b010111, x.where(0), "20 wear as it is");
    Due.is(3, x.told(1), "20 wear stays");
    x.hear(13, 1);
    x.hear(10, 3);
    x.hear(15, 5);
    Due.is(0b010111, x.where(0), "20 four heard");
    x.hear(15, 4);
    Due.is(0, x.where(0), "20 the fifth is not so");
    Due.is(3, x.told(0), "20 no week went");
    x.hear(-1, 0);
    x.hear(13, 1);
    x.pass(1);
    Due.is(0, x.where(0), "20 what is heard is told from now on");
    BesideTom y = Due.of(0, 0, 1, 5);
    Due.room(y, "chat 2 p=1&d=5;chat 1 p=1&d=0");
    y.move(0, 4);
    // Next to each other: 3 and 3 and 5, but 3 and 5 and 5 at 5, and 3 and 4 and 5 at 0.
    y.hear(13, 0);
    Due.is(0b100000, y.where(1), "20 by the mouth there");
    y.hear(-1, 0);
    y.hear(11, 0);
    Due.is(0b011010, y.where(1), "20 by the mouth elsewhere, and to change desks");
  }

  private static void can() {
    BesideTom x = Due.of(1, 7, 0, 0);
    Due.is(10, x.can(0, 0), "21 nothing is heard: all");
    Due.is(0, x.can(0, 1), "21 nothing is heard: the least is 0");
    x.hear(10, 0);
    Due.is(1, x.can(0, 0), "21 3 and 3 and v");
    Due.is(4, x.can(0, 1), "21 v is 4");
    Due.is(7, x.of(0, 1), "21 v stays");
    Due.is(0, x.can(1, 0), "21 a pupil's v is not heard");
    Due.is(-5, x.can(1, 1), "21 none");
    x.hear(-1, 0);
    x.hear(13, 0);
    Due.is(10, x.can(1, 0), "21 it is so by any");
    Due.is(0, x.can(1, 1), "21 by any, the least");
    x.hear(15, 3);
    Due.is(1, x.can(0, 0), "21 so in three weeks too");
    Due.is(-1, x.can(0, 2), "21 what 2");
    Due.is(-1, x.can(0, -1), "21 what -1");
    Due.is(-1, x.can(2, 0), "21 no such pupil");
    Due.is(-1, x.can(-1, 1), "21 pupil -1");
    BesideTom y = Due.of(1, 7, 0, 0);
    Due.room(y, "chat 4 v>5");
    // MOUTH of the talker is 7, and it talks 14; the other one 3, or 7.
    y.hear(21, 0);
    Due.is(4, y.can(1, 0), "21 by the mouth");
    Due.is(6, y.can(1, 1), "21 by the mouth, the least");
    Due.is(3, y.of(1, 11), "21 the mouth stays");
    Due.is(17, y.told(4), "21 the noise stays");
    BesideTom z = Due.of(0, 0, 0, 8);
    Due.room(z, "chat 1 p=0&v=5|p=1&v=5");
    z.hear(7, 0);
    Due.is(5, z.can(1, 1), "21 only of the one asked for");
  }

  private static void odds() {
    BesideTom x = Due.of(0, 0, 0, 0, 0, 0);
    Due.is(1, x.odds(0, 0), "22 without the middle one");
    Due.is(3, x.odds(0, 1), "22 of three");
    Due.is(1, x.odds(5, 0), "22 not yet");
    Due.is(3, x.odds(5, 1), "22 not yet, of three");
    Due.is(1, x.odds(6, 0), "22 all");
    Due.is(1, x.odds(6, 1), "22 all, in lowest terms");
    Due.is(0, x.of(0, 4), "22 nobody goes");
    x.away(1, true);
    Due.is(1, x.odds(0, 0), "22 still anyway");
    x.away(1, false);
    x.pupil(0, 0);
    Due.is(1, x.odds(6, 0), "22 two of four");
    Due.is(2, x.odds(6, 1), "22 two of four, in lowest terms");
    Due.is(0, x.odds(5, 0), "22 none of four");
    Due.is(1, x.odds(5, 1), "22 none of four, in lowest terms");
    Due.is(1, x.odds(999, 0), "22 999");
    Due.is(BesideTom.NO, x.odds(1000, 0), "22 q above 999");
    Due.is(BesideTom.NO, x.odds(-1, 1), "22 q below 0");
    Due.is(BesideTom.NO, x.odds(5, 2), "22 part 2");
    Due.is(BesideTom.NO, x.odds(5, -1), "22 part -1");
    Due.is(BesideTom.NO, new BesideTom().odds(5, 0), "22 nobody");
    Due.is(BesideTom.NO, new BesideTom().odds(5, 1), "22 nobody below the line");
    BesideTom y = Due.of(0, 0, 0, 0);
    y.pass(3);
    y.pupil(0, 0);
    // Wear stays: 8 without the first or the last.
    Due.is(1, y.odds(7, 0), "22 wear stays");
    Due.is(3, y.odds(7, 1), "22 wear stays, of three");
    Due.is(1, y.odds(8, 1), "22 wear stays, just so");
  }

  private static void mean() {
    BesideTom x = Due.of(0, 0, 0, 0, 0, 0);
    Due.is(7, x.mean(0), "23 7 each");
    Due.is(1, x.mean(1), "23 7 each, in lowest terms");
    x.away(2, true);
    Due.is(6, x.mean(0), "23 9 and 9 by three");
    Due.is(1, x.mean(1), "23 9 and 9 by three, below the line");
    x.pupil(0, 0);
    x.away(3, true);
    Due.is(9, x.mean(0), "23 9 and 9 by four");
    Due.is(2, x.mean(1), "23 9 and 9 by four, below the line");
    x.away(0, true);
    Due.is(5, x.mean(0), "23 10 by four");
    Due.is(2, x.mean(1), "23 10 by four, below the line");
    x.away(1, true);
    Due.is(0, x.mean(0), "23 0 by four");
    Due.is(1, x.mean(1), "23 0 by four, below the line");
    Due.is(BesideTom.NO, x.mean(2), "23 part 2");
    Due.is(BesideTom.NO, x.mean(-1), "23 part -1");
    Due.is(BesideTom.NO, new BesideTom().mean(0), "23 nobody");
    Due.is(BesideTom.NO, new BesideTom().mean(1), "23 nobody below the line");
    Due.is(10, Due.of(0, 0).mean(0), "23 of one");
    Due.is(1, Due.of(0, 0).mean(1), "23 of one, below the line");
    BesideTom two = Due.of(0, 0, 0, 0);
    two.pass(2);
    Due.is(9, two.mean(0), "23 by noise 6");
    two.pass(1);
    Due.is(8, two.mean(0), "23 by noise 8");
    BesideTom six = Due.of(0, 0, 0, 0, 0, 0, 0, 0, 0, 0, 0, 0);
    for (int p = 3; p < 6; p++) six.away(p, true);
    Due.is(7, six.mean(0), "23 21 by six");
    Due.is(2, six.mean(1), "23 21 by six, below the line");
  }
}
