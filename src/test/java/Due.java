/** Counts the answers that are not as due, for the tests that are told by hand. */
final class Due {
  private static int wrong = 0;
  private static int asked = 0;

  private Due() {}

  static void is(long due, long got, String what) {
    asked++;
    if (got == due) return;
    wrong++;
    System.out.println(what + ": answered " + got + ", due is " + due);
  }

  /** Feeds a text and makes it a ROOM. */
  static int room(BesideTom x, String text) {
    for (char sign : text.toCharArray()) x.feed(sign);
    return x.room();
  }

  /** Pupils told as kind and v, kind and v. */
  static BesideTom of(int... kindsAndVs) {
    BesideTom x = new BesideTom();
    for (int i = 0; i + 1 < kindsAndVs.length; i += 2) is(i / 2, x.pupil(kindsAndVs[i], kindsAndVs[i + 1]), "pupil");
    return x;
  }

  static void ends(String test) {
    System.out.println(test + ": " + asked + " answers, " + wrong + " wrong");
    if (wrong != 0) System.exit(1);
  }
}
