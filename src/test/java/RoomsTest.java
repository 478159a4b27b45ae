/** Promises 8 to 10: feed, room, told. */
public final class RoomsTest {
  private RoomsTest() {}

  public static void main(String[] args) {
    feed();
    roomNumbersAndFull();
    faults();
    faultsOfDepthAndClauses();
    tests();
    joined();
    wearAndCost();
    told();
    Due.ends("RoomsTest");
  }

  private static void feed() {
    BesideTom x = new BesideTom();
    Due.is(-2, x.feed(-1), "8 below 0");
    Due.is(-2, x.feed(128), "8 above 127");
    Due.is(1, x.feed(0), "8 sign 0");
    Due.is(2, x.feed(127), "8 sign 127");
    for (int i = 3; i <= 100; i++) Due.is(i, x.feed('c'), "8 sign " + i);
    Due.is(-4, x.feed('c'), "8 full");
    Due.is(-2, x.feed(128), "8 bad ahead of full");
    Due.is(100, x.count(5), "8 a hundred");
    Due.is(-10, x.room(), "8 the text is no room");
    Due.is(1, x.feed('c'), "8 the text is empty then");
  }

  private static void roomNumbersAndFull() {
    BesideTom x = Due.of(0, 0);
    for (int i = 0; i < 6; i++) {
      Due.is(i, Due.room(x, "wear " + (i + 10)), "9 room " + i);
      Due.is(10 + i, x.told(2), "9 the newest holds");
      Due.is(i + 1, x.count(1), "9 how many rooms");
      Due.is(0, x.count(5), "9 the text is empty");
    }
    Due.is(-4, x.room(), "9 full with nothing to read");
    Due.is(-4, Due.room(x, "wear 7"), "9 full");
    Due.is(6, x.count(5), "9 the text stays");
    Due.is(15, x.told(2), "9 the one that held holds");
    BesideTom y = Due.of(0, 0);
    Due.room(y, "wear 8;cost 9;chat 1 p=0");
    Due.is(-14, Due.room(y, "wear8"), "9 a fault");
    Due.is(8, y.told(2), "9 wears as it was");
    Due.is(9, y.told(3), "9 cost as it was");
    Due.is(4, y.of(0, 10), "9 mouth as it was");
    Due.is(1, y.count(1), "9 no room more");
    Due.is(0, y.count(5), "9 the text is empty behind a fault");
    Due.is(1, Due.room(y, "cost 5"), "9 the next");
    Due.is(3, y.told(2), "9 nothing of the older one holds");
    Due.is(3, y.of(0, 10), "9 nor its chat");
  }

  private static void faulty(int fault, String text) {
    BesideTom x = new BesideTom();
    Due.is(-10 - fault, Due.room(x, text), "9 fault of '" + text + "'");
    Due.is(0, x.count(1), "9 no room by '" + text + "'");
  }

  private static void fine(String text) {
    Due.is(0, Due.room(new BesideTom(), text), "9 a room: '" + text + "'");
  }

  private static void faults() {
    faulty(0, "");
    faulty(0, " chat 1 p=0");
    faulty(0, "Chat 1 p=0");
    faulty(1, "c");
    faulty(0, "xhat");
    faulty(1, "cx");
    faulty(2, "ch");
    faulty(2, "chit 1 p=0");
    faulty(2, "coat 1");
    faulty(1, "hat 1");
    faulty(4, "chat");
    faulty(4, "chats 1 p=0");
    faulty(5, "chat  1 p=0");
    faulty(5, "chat p=0");
    faulty(5, "chat -1 p=0");
    faulty(6, "chat 1");
    faulty(6, "chat 1;cost 1");
    faulty(7, "chat 123 p=0");
    faulty(7, "chat 12");
    faulty(7, "chat 1  p=0");
    faulty(7, "chat 1 ");
    faulty(7, "chat 1 x=0");
    faulty(7, "chat 1 P=0");
    faulty(7, "chat 1 &p=0");
    faulty(8, "chat 1 p");
    faulty(8, "chat 1 p =0");
    faulty(8, "chat 1 p!0");
    faulty(9, "chat 1 p=");
    faulty(9, "chat 1 p==0");
    faulty(9, "chat 1 p=x");
    faulty(11, "chat 1 p=000");
    faulty(10, "chat 1 p=0 ");
    faulty(10, "chat 1 p=0)");
    faulty(11, "chat 1 p=0&");
    faulty(11, "chat 1 p=0|");
    faulty(11, "chat 1 p=0&&d=0");
    faulty(11, "chat 1 p=0;");
    faulty(11, "chat 1 p=0;;wear 1");
    faulty(11, "chat 1 p=0; wear 1");
    faulty(8, "chat 1 (");
    faulty(8, "chat 1 ()");
    faulty(11, "chat 1 (p=0");
    faulty(11, "chat 1 (p=0;wear 1");
    faulty(12, "chat 1 (p=0))");
    faulty(8, "chat 1 !");
    faulty(8, "hush 1 !;");
    faulty(6, "wear 1 p=0");
    faulty(6, "cost 1 ");
    faulty(7, "cost 123");
    faulty(5, "wear ");
    faulty(5, "cost x");
    faulty(3, "wea");
    faulty(3, "weak 1");
    faulty(3, "cos\0 1");
    faulty(6, "wear 1\0");
  }

  private static void faultsOfDepthAndClauses() {
    fine("chat 1 ((((p=0))))");
    faulty(11, "chat 1 (((((p=0)))))");
    fine("chat 1 !!!!p=0");
    faulty(11, "chat 1 !!!!!p=0");
    fine("chat 1 !(!(p=0))");
    faulty(11, "chat 1 !(!((p=0)))");
    faulty(11, "chat 1 ((!(!p=0)))");
    fine("chat 1 ((((p=0))))|((((p=0))))&!!!!p=0");
    fine("chat 1 ((((p=0)))|p=0&p=0&!!p=0)");
    faulty(15, "chat 1 (((p=0&!!p=0)))");
    faulty(24, "chat 1 (((p=0&!p=0&p=0|!(!p=0))))");
    String nine = "cost 1;cost 2;cost 3;cost 4;cost 5;cost 6;cost 7;cost 8;cost 9";
    fine(nine);
    fine(nine + ";wear 1");
    faulty(69, nine + ";wear 1;");
    faulty(69, nine + ";wear 1;wear 2");
    String ninety = nine + ";chat 1 p=0|p=1|p=2|p=3|p";
    faulty(87, ninety);
    fine(ninety + "=10|p=11|d=2");
    faulty(100, ninety + "=10|p=11|d=2|");
  }

  /** Of PUPIL 1, a QUIET one with v 7, how it MOUTHS at DESK 5, ROW 1, COLUMN 2. */
  private static int mouth(String text) {
    BesideTom x = Due.of(0, 0, 2, 7);
    Due.room(x, text);
    return x.of(1, 15);
  }

  private static void tests() {
    int[] values = {1, 5, 2, 7, 1, 2};
    for (int i = 0; i < 6; i++) {
      for (int n = 0; n < 10; n++) {
        char letter = "pdkvrc".charAt(i);
        Due.is(values[i] < n ? 4 : 3, mouth("chat 1 " + letter + "<" + n), "9 " + letter + "<" + n);
        Due.is(values[i] == n ? 4 : 3, mouth("chat 1 " + letter + "=" + n), "9 " + letter + "=" + n);
        Due.is(values[i] > n ? 4 : 3, mouth("chat 1 " + letter + ">" + n), "9 " + letter + ">" + n);
      }
    }
    Due.is(15, mouth("chat 12 v<10"), "9 two digits");
    Due.is(5, mouth("chat 02 v=07"), "9 two digits, 0 ahead");
    Due.is(3, mouth("chat 12 v=70"), "9 two digits that are another number");
  }

  private static void joined() {
    String no = "p=0", yes = "p=1";
    Due.is(4, mouth("chat 1 " + yes + "|" + no), "9 yes or no");
    Due.is(4, mouth("chat 1 " + no + "|" + yes), "9 no or yes");
    Due.is(3, mouth("chat 1 " + yes + "&" + no), "9 yes and no");
    Due.is(3, mouth("chat 1 " + no + "&" + yes), "9 no and yes");
    Due.is(4, mouth("chat 1 " + yes + "|" + no + "&" + no), "9 and is nearer than or");
    Due.is(4, mouth("chat 1 " + no + "&" + no + "|" + yes), "9 and is nearer than or, ahead");
    Due.is(3, mouth("chat 1 (" + yes + "|" + no + ")&" + no), "9 or within ( )");
    Due.is(3, mouth("chat 1 " + no + "&(" + no + "|" + yes + ")"), "9 or within ( ), behind");
    Due.is(4, mouth("chat 1 !" + no), "9 not no");
    Due.is(3, mouth("chat 1 !" + yes), "9 not yes");
    Due.is(4, mouth("chat 1 !" + yes + "|" + yes), "9 not is nearest to or");
    Due.is(3, mouth("chat 1 !" + no + "&" + no), "9 not is nearest to and");
    Due.is(4, mouth("chat 1 !(" + no + "&" + no + ")"), "9 not of all within ( )");
    Due.is(4, mouth("chat 1 !!" + yes), "9 not not yes");
    Due.is(12, mouth("chat 5 p=1;chat 4 d=5;chat 90 p=0"), "9 chats together");
    Due.is(1, mouth("hush 1 p=1;hush 1 d=5;hush 1 p=0"), "9 hushes together");
    Due.is(0, mouth("hush 9 p=1"), "9 0 at least");
    Due.is(2, mouth("hush 9 p=1;chat 8 p=1"), "9 0 at least together, not one by one");
    String chats = "chat 99 p=1;chat 99 p=1;chat 99 p=1;chat 99 p=1;chat 99 p=1;chat 99 p=1;chat 99 p=1;chat 99 p=1";
    Due.is(3 + 8 * 99, mouth(chats), "9 eight chats");
  }

  private static void wearAndCost() {
    BesideTom x = Due.of(0, 0, 0, 0);
    Due.room(x, "wear 9;cost 8;wear 5;cost 2");
    Due.is(5, x.told(2), "9 the last wear");
    Due.is(2, x.told(3), "9 the last cost");
    x.pass(4);
    Due.is(6, x.told(4), "9 wear 4 by 5");
    Due.is(8, x.pass(1), "9 wear 5 by 5");
    Due.is(6, x.of(0, 8), "9 10 less 8 by 2");
    Due.room(x, "cost 0;wear 0");
    Due.is(1, x.told(2), "9 1 if less");
    Due.is(1, x.told(3), "9 1 if less");
    Due.is(16, x.told(4), "9 wear 5 by 1");
    Due.room(x, "chat 1 p=0");
    Due.is(3, x.told(2), "9 3 without");
    Due.is(4, x.told(3), "9 4 without");
  }

  private static void told() {
    BesideTom x = Due.of(0, 0, 2, 0);
    x.knows(0, 5);
    x.knows(1, 6);
    x.move(1, 3);
    x.pass(1);
    Due.is(1, x.told(0), "10 week");
    Due.is(1, x.told(1), "10 wear");
    x.move(1, 4);
    Due.is(1, x.told(0), "10 week goes on");
    Due.is(0, x.told(1), "10 wear is 0 by a move");
    Due.is(0, x.told(4), "10 noise of two apart");
    x.move(1, 1);
    Due.is(4, x.told(4), "10 noise: 3 and 1");
    Due.is(11 + 9 + 8, x.told(5), "10 knows of all");
    Due.is(9 + 8, x.told(6), "10 learns of all");
    x.away(0, true);
    Due.is(28, x.told(5), "10 knows of all, of who is away too");
    Due.is(10, x.told(6), "10 learns of all but who is away");
    x.away(0, false);
    x.pass(1);
    // WEAR is 2: a week on, NOISE would be 6.
    Due.is(9 + 8, x.told(6), "10 learns by how all is now");
    x.pupil(0, 0);
    x.pass(1);
    x.away(2, true);
    Due.is(9 + 8, x.told(6), "10 learns of all, by wear 3: noise is 6");
    int[] who = {0, 1, 2, -5, -5, -5};
    for (int d = 0; d < 6; d++) Due.is(who[d], x.told(10 + d), "10 who has desk " + d);
    Due.is(-1, x.told(-1), "10 what -1");
    Due.is(-1, x.told(7), "10 what 7");
    Due.is(-1, x.told(9), "10 what 9");
    Due.is(-1, x.told(16), "10 what 16");
    Due.is(-1, x.told(Integer.MIN_VALUE + 9), "10 what far off");
  }
}
