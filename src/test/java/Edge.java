/**
 * What the tests of boundaries have in common. One edge is one sentence of the document that names a boundary: it is
 * told by its promise's number and by its words, has objects of its own, and fails for itself.
 */
abstract class Edge {
  static final int NONE = -1, BAD = -2, STATE = -3, FULL = -4, MISSING = -5;
  static final int NOTHING = -11, CAST = -12, PLACE = -13, SIZE = -14;
  static final long NO = Long.MIN_VALUE;
  /** Beyond every bound, and such that sums and differences with small numbers wrap around. */
  static final int[] FAR = {Integer.MIN_VALUE, Integer.MIN_VALUE + 9, Integer.MAX_VALUE - 9, Integer.MAX_VALUE};

  private static String name = "";
  private static int edges, failed, answers;
  private static boolean holds;

  static void edge(int promise, String words, Runnable test) {
    name = "promise " + promise + ", '" + words + "'";
    edges++;
    answers = 0;
    holds = true;
    try {
      test.run();
    } catch (RuntimeException thrown) {
      fails("threw " + thrown);
    }
    if (answers == 0 && holds) fails("asked nothing");
    if (!holds) failed++;
  }

  static void is(long due, long got) {
    answers++;
    if (got != due) fails("answer " + answers + " is " + got + ", due is " + due);
  }

  private static void fails(String how) {
    holds = false;
    System.out.println(name + ": " + how);
  }

  /** Pupils told as kind and v, kind and v. */
  static BesideTom of(int... kindsAndVs) {
    BesideTom x = new BesideTom();
    for (int i = 0; i + 1 < kindsAndVs.length; i += 2) x.pupil(kindsAndVs[i], kindsAndVs[i + 1]);
    return x;
  }

  /** So many of KIND 0, with v 0, at DESKS 0, 1, .. */
  static BesideTom plain(int many) {
    BesideTom x = new BesideTom();
    for (int p = 0; p < many; p++) x.pupil(0, 0);
    return x;
  }

  /** So many of KIND 0 who make no NOISE but by WEAR, 1 each a WEEK, if they have NEIGHBOURS; each NOISE costs 1. */
  static BesideTom still(int many) {
    BesideTom x = plain(many);
    room(x, "hush 3 p<9;wear 1;cost 1");
    return x;
  }

  static void feed(BesideTom x, String text) {
    for (char sign : text.toCharArray()) x.feed(sign);
  }

  static int room(BesideTom x, String text) {
    feed(x, text);
    return x.room();
  }

  static void weeks(BesideTom x, int n) {
    for (int left = n; left > 0; left -= 60) x.pass(Math.min(60, left));
  }

  static void ends(String test) {
    System.out.println(test + ": " + edges + " edges, " + failed + " failed");
    if (failed != 0) System.exit(1);
  }
}
