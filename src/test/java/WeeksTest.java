/** Promises 11 to 13: pass, on, loud. */
public final class WeeksTest {
  private WeeksTest() {}

  public static void main(String[] args) {
    pass();
    passToTheEnd();
    on();
    onBeyond();
    loud();
    Due.ends("WeeksTest");
  }

  private static void pass() {
    BesideTom x = Due.of(0, 0, 0, 0, 0, 0);
    x.away(2, true);
    Due.is(6, x.pass(0), "11 no week");
    Due.is(0, x.told(0), "11 no week went");
    Due.is(6, x.pass(2), "11 two weeks");
    Due.is(18, x.of(0, 3), "11 knows 9 more a week");
    Due.is(0, x.of(2, 3), "11 who is away knows no more");
    // The third week still goes by the NOISE ahead of it.
    Due.is(8, x.pass(1), "11 noise then");
    Due.is(27, x.of(0, 3), "11 learns by how all is ahead");
    Due.is(8, x.pass(1), "11 a fourth week");
    Due.is(35, x.of(0, 3), "11 learns 10 less 8 by 4");
    Due.is(4, x.told(0), "11 week");
    Due.is(4, x.told(1), "11 wear");
    Due.is(-2, x.pass(-1), "11 below 0");
    Due.is(-2, x.pass(61), "11 above 60");
    Due.is(4, x.told(0), "11 nothing changed");
  }

  private static void passToTheEnd() {
    BesideTom x = Due.of(0, 0, 4, 9);
    for (int i = 0; i < 166; i++) x.pass(60);
    Due.is(9960, x.told(0), "11 week 9960");
    Due.is(99, x.told(1), "11 wear is 99 at most");
    Due.is(3 + 33 + 15 + 33, x.told(4), "11 noise by wear 99");
    Due.is(-3, x.pass(40), "11 above 9999");
    Due.is(9960, x.told(0), "11 nothing changed");
    Due.is(84, x.pass(39), "11 up to 9999");
    Due.is(9999, x.told(0), "11 week 9999");
    Due.is(-3, x.pass(1), "11 above 9999 by 1");
    Due.is(84, x.pass(0), "11 no week is none too many");
    Due.is(-2, x.pass(61), "11 bad ahead of state");
    BesideTom y = Due.of(0, 0);
    y.knows(0, 9985);
    y.pass(1);
    Due.is(9995, y.of(0, 3), "11 knows 10 more");
    y.pass(2);
    Due.is(9999, y.of(0, 3), "11 knows 9999 at most");
  }

  private static void on() {
    BesideTom x = Due.of(6, 0, 0, 0);
    x.line(0, 1, 7);
    x.line(0, 3, 2);
    int[] noise = {6, 13, 6, 10, 8, 15};
    for (int n = 0; n < 6; n++) Due.is(noise[n], x.on(n, 0), "12 noise on " + n);
    // LEARNS are 9 and 9, then 7 and 7, then 9 and 9, then 8 and 8.
    Due.is(0, x.on(0, 1), "12 knows on 0");
    Due.is(18, x.on(1, 1), "12 knows on 1");
    Due.is(32, x.on(2, 1), "12 knows on 2");
    Due.is(66, x.on(4, 1), "12 knows on 4");
    Due.is(33, x.on(4, 10), "12 knows of one");
    x.away(0, true);
    Due.is(0, x.on(4, 10), "12 knows of one who is away");
    Due.is(40, x.on(4, 11), "12 knows of the other");
    Due.is(0, x.told(0), "12 no week went");
    Due.is(0, x.told(5), "12 nobody knows more");
    Due.is(-1, x.on(0, 12), "12 no such pupil");
    Due.is(-1, x.on(61, 2), "12 what ahead of n");
    Due.is(-1, x.on(0, 9), "12 what 9");
    Due.is(-1, x.on(0, -1), "12 what -1");
    Due.is(-1, x.on(0, Integer.MIN_VALUE + 9), "12 what far off");
    Due.is(-2, x.on(61, 0), "12 n above 60");
    Due.is(-2, x.on(-1, 11), "12 n below 0");
    Due.is(600, x.on(60, 11), "12 n 60");
  }

  private static void onBeyond() {
    BesideTom x = Due.of(0, 0, 0, 0);
    x.move(1, 5);
    for (int i = 0; i < 166; i++) x.pass(60);
    x.pass(39);
    Due.is(9999, x.of(0, 3), "12 knows 9999");
    Due.is(10009, x.on(1, 10), "12 knows beyond 9999");
    Due.is(2 * 9999 + 2 * 600, x.on(60, 1), "12 all know beyond 9999, in weeks beyond 9999");
    Due.is(9999, x.of(0, 3), "12 knows as it did");
    x.away(1, true);
    x.pupil(6, 0);
    x.line(2, 0, 5);
    Due.is(1, x.of(2, 2), "12 beside the first");
    // WEEK 9999 is 3 modulo 4, the one behind it 0; WEAR stays 99.
    Due.is(72, x.on(0, 0), "12 noise in week 9999");
    Due.is(77, x.on(1, 0), "12 noise in week 10000");
    Due.is(72, x.on(60, 0), "12 wear is 99 at most");
  }

  private static void loud() {
    BesideTom x = Due.of(0, 0, 0, 0);
    Due.is(0, x.loud(0), "13 at once");
    Due.is(0, x.loud(6), "13 just so loud");
    Due.is(3, x.loud(7), "13 by wear");
    Due.is(3, x.loud(8), "13 by wear, just so");
    Due.is(6, x.loud(9), "13 by more wear");
    Due.is(57, x.loud(44), "13 late");
    Due.is(60, x.loud(45), "13 at 60");
    Due.is(60, x.loud(46), "13 at 60, just so");
    Due.is(-5, x.loud(47), "13 not by then");
    Due.is(-5, x.loud(999), "13 never");
    Due.is(-2, x.loud(-1), "13 below 0");
    Due.is(-2, x.loud(1000), "13 above 999");
    x.pass(2);
    Due.is(1, x.loud(8), "13 from now");
    Due.is(58, x.loud(46), "13 from now, late");
    Due.is(2, x.told(0), "13 no week went");
    BesideTom y = Due.of(6, 0);
    y.line(0, 2, 4);
    Due.is(2, y.loud(4), "13 by the line");
  }
}
