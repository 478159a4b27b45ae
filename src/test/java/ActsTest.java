/** Promises 31 to 34: act, trace, taken, count. */
public final class ActsTest {
  private ActsTest() {}

  public static void main(String[] args) {
    bodies();
    told();
    wrapping();
    noAct();
    taken();
    count();
    Due.ends("ActsTest");
  }

  private static void acts(BesideTom x, int pupil, int act, int given, int due, int... bodies) {
    String call = "31 act(" + pupil + ", " + act + ", " + given + ")";
    Due.is(due, x.act(pupil, act, given), call);
    Due.is(bodies.length, x.count(6), call + " bodies");
    for (int i = 0; i < bodies.length; i++) Due.is(bodies[i], x.trace(i), call + " trace " + i);
    Due.is(-1, x.trace(bodies.length), call + " trace's end");
    Due.is(-1, x.trace(-1), call + " trace -1");
  }

  private static void bodies() {
    BesideTom x = Due.of(0, 6, 1, 5, 2, 3, 3, 7, 4, 8, 5, 4);
    int noise = x.told(4);
    acts(x, 0, 0, 5, 5, 10);
    acts(x, 0, 1, 5, -1, 11, 10);
    acts(x, 0, 2, 5, -2, 12, 11, 10);
    acts(x, 1, 0, 5, 6, 10);
    acts(x, 1, 1, 5, 1 ^ 6, 20, 11, 10);
    acts(x, 1, 2, 5, 14, 12, 20, 11, 10);
    acts(x, 2, 0, 5, 17, 30, 10);
    acts(x, 2, 1, 5, 14, 11, 30, 10);
    acts(x, 2, 2, 5, 28, 12, 11, 30, 10);
    acts(x, 3, 0, 5, 8, 10);
    acts(x, 3, 1, 5, 1, 11, 10);
    acts(x, 3, 2, 5, 2 - 3, 40, 12, 11, 10, 11, 10);
    acts(x, 4, 0, 5, -9, 50, 10);
    acts(x, 4, 1, 5, -18 ^ 6, 51, 20, 11, 50, 10);
    acts(x, 4, 2, 5, -48, 12, 51, 20, 11, 50, 10);
    acts(x, 5, 0, 5, 20, 30, 10);
    acts(x, 5, 1, 5, 16, 11, 30, 10);
    acts(x, 5, 2, 5, 2, 60, 12, 11, 30, 10);
    Due.is(noise, x.told(4), "31 nothing else changes");
  }

  private static void told() {
    BesideTom x = Due.of(6, 6);
    acts(x, 0, 0, 5, 5 ^ 6, 71, 10);
    acts(x, 0, 1, 5, -3 + 2, 70, 11, 71, 10, 10);
    acts(x, 0, 2, 5, -2 + 3, 40, 12, 70, 11, 71, 10, 10, 70, 11, 71, 10, 10);
  }

  private static void wrapping() {
    BesideTom x = Due.of(0, 6, 0, 0, 2, 3, 4, 0);
    acts(x, 0, 2, Integer.MAX_VALUE, -14, 12, 11, 10);
    acts(x, 1, 0, Integer.MAX_VALUE, Integer.MIN_VALUE, 10);
    acts(x, 2, 0, Integer.MAX_VALUE, Integer.MAX_VALUE, 30, 10);
    acts(x, 3, 0, Integer.MIN_VALUE, Integer.MAX_VALUE - 2, 50, 10);
  }

  private static void noAct() {
    BesideTom x = Due.of(0, 6);
    Due.is(-1, x.trace(0), "32 no act yet");
    x.act(0, 2, 1);
    acts(x, 1, 0, 5, 0);
    x.act(0, 2, 1);
    acts(x, -1, 0, 5, 0);
    x.act(0, 2, 1);
    acts(x, 0, 3, 5, 0);
    x.act(0, 2, 1);
    acts(x, 0, -1, 5, 0);
    x.act(0, 2, 1);
    Due.is(-1, x.trace(20), "32 place 20");
    Due.is(-1, x.trace(Integer.MAX_VALUE), "32 place far off");
    Due.is(-1, x.trace(Integer.MIN_VALUE), "32 place far below 0");
  }

  private static void taken() {
    int[][] fits = {{0}, {0, 1}, {0, 2}, {0, 3}, {0, 1, 4}, {0, 2, 5}, {0, 3, 6}};
    for (int kind = 0; kind < 7; kind++) {
      BesideTom x = Due.of(kind, 0);
      for (int k = 0; k < 7; k++) {
        int due = -12;
        for (int fit : fits[kind]) if (fit == k) due = kind;
        Due.is(due, x.taken(0, k), "33 kind " + kind + " taken for " + k);
      }
      Due.is(-2, x.taken(0, 7), "33 k 7");
      Due.is(-2, x.taken(0, -1), "33 k -1");
      Due.is(-2, x.taken(1, 7), "33 k ahead of the pupil");
      Due.is(-11, x.taken(1, 0), "33 no such pupil");
      Due.is(-11, x.taken(-1, 6), "33 pupil -1");
    }
  }

  private static void count() {
    BesideTom x = Due.of(0, 0, 0, 0);
    Due.room(x, "wear 1");
    Due.room(x, "wear 2");
    Due.room(x, "wear 3");
    for (int i = 0; i < 4; i++) x.hear(1, 1);
    for (int i = 0; i < 5; i++) x.term(0, 0);
    for (int i = 0; i < 6; i++) x.book(0, 0);
    for (int i = 0; i < 7; i++) x.feed(1);
    x.act(0, 1, 0);
    int[] due = {2, 3, 4, 5, 6, 7, 2};
    for (int what = 0; what < 7; what++) Due.is(due[what], x.count(what), "34 count " + what);
    Due.is(-2, x.count(7), "34 what 7");
    Due.is(-2, x.count(-1), "34 what -1");
  }
}
