/** Promises 14 to 18: quietest, wisest, seat, best, few. */
public final class PlansTest {
  /** Who is told so talks most of all in the middle, and a little more at DESK 0 than at DESK 2. */
  private static final String LOUD_ONE = "chat 5 p=1;chat 1 p=1&d=0";

  private PlansTest() {}

  public static void main(String[] args) {
    quietest();
    wisest();
    byWearAndLineOfNow();
    withCorks();
    bothOfNobody();
    seat();
    change();
    worst();
    few();
    fewByTurns();
    Due.ends("PlansTest");
  }

  private static void quietest() {
    BesideTom x = Due.of(0, 0, 0, 0);
    Due.is(0, x.quietest(0), "14 two apart");
    Due.is(0, x.quietest(10), "14 the first desk");
    Due.is(2, x.quietest(11), "14 the first that is apart");
    Due.is(1, x.of(1, 2), "14 nobody moves");
    Due.is(-1, x.quietest(12), "14 no such pupil");
    Due.is(-1, x.quietest(1), "14 what 1");
    Due.is(-1, x.quietest(9), "14 what 9");
    Due.is(-1, x.quietest(-1), "14 what -1");
    Due.is(-1, x.quietest(Integer.MIN_VALUE + 9), "14 what far off");
    BesideTom y = Due.of(0, 0, 0, 0, 0, 0, 0, 0, 0, 0, 0, 0);
    y.pass(30);
    Due.is(102, y.told(4), "14 noise with wear 30");
    Due.is(42, y.quietest(0), "14 wear is 0 by a plan");
    Due.is(30, y.told(1), "14 wear is not touched");
    for (int p = 0; p < 6; p++) Due.is(p, y.quietest(10 + p), "14 the first of all, " + p);
    BesideTom z = Due.of(6, 0);
    z.line(0, 0, 1);
    z.line(0, 1, 5);
    Due.is(1, z.quietest(0), "14 by this week's line");
    z.pass(1);
    Due.is(5, z.quietest(0), "14 by the next week's line");
    z.away(0, true);
    Due.is(0, z.quietest(0), "14 who is away is still");
    Due.is(0, z.quietest(10), "14 who is away has a desk");
  }

  /** PUPIL 0 does not see far, but chats in front. */
  private static BesideTom frontOrBack() {
    BesideTom x = Due.of(3, 0, 0, 0, 0, 0, 0, 0, 0, 0, 0, 0);
    Due.room(x, "chat 5 p=0&r=0;cost 99");
    return x;
  }

  private static void wisest() {
    BesideTom x = frontOrBack();
    Due.is(42, x.quietest(0), "14 quietest behind");
    int[] quiet = {3, 0, 1, 2, 4, 5};
    for (int p = 0; p < 6; p++) Due.is(quiet[p], x.quietest(10 + p), "14 quietest, desk of " + p);
    Due.is(60, x.wisest(0), "15 wisest in front");
    for (int p = 0; p < 6; p++) Due.is(p, x.wisest(10 + p), "15 wisest, desk of " + p);
    BesideTom y = Due.of(3, 0, 3, 0);
    y.move(0, 5);
    y.pass(60);
    Due.is(20, y.wisest(0), "15 both in front, apart");
    Due.is(0, y.wisest(10), "15 the first desk");
    Due.is(2, y.wisest(11), "15 the first that is apart in front");
    Due.is(5, y.of(0, 2), "15 nobody moves");
    Due.is(60, y.told(1), "15 wear is not touched");
    Due.is(-1, y.wisest(12), "15 no such pupil");
    Due.is(-1, y.wisest(1), "15 what 1");
    Due.is(-1, y.wisest(-1), "15 what -1");
    Due.is(-1, y.wisest(Integer.MIN_VALUE + 9), "15 what far off");
    BesideTom z = Due.of(0, 0, 0, 0, 0, 0, 0, 0, 0, 0, 0, 0);
    Due.room(z, "cost 20");
    z.pass(60);
    Due.is(6 * 2, z.told(6), "15 learns by wear: noise is 162");
    Due.is(6 * 8, z.wisest(0), "15 wear is 0 by a plan: noise is 42");
    z.away(5, true);
    // NOISE is 30 or less with one of them away, wherever that one sits.
    Due.is(5 * 9, z.wisest(0), "15 who is away learns nothing");
  }

  /** One who is told so talks 9 more next week, but not now. */
  private static void byWearAndLineOfNow() {
    BesideTom x = Due.of(0, 0, 0, 0, 6, 0);
    Due.room(x, "wear 1;cost 1");
    x.line(2, 1, 9);
    x.pass(4);
    Due.is(24, x.told(4), "14 noise with wear 4, by wears 1");
    Due.is(0, x.quietest(0), "14 all three apart");
    int[] quiet = {0, 2, 4}, wise = {0, 4, 2};
    for (int p = 0; p < 3; p++) Due.is(quiet[p], x.quietest(10 + p), "14 all three apart, desk of " + p);
    Due.is(30, x.wisest(0), "15 all three apart, the third in front");
    for (int p = 0; p < 3; p++) Due.is(wise[p], x.wisest(10 + p), "15 the third in front, desk of " + p);
    Due.is(3, x.seat(0), "16 away from both");
    Due.is(5, x.seat(2), "16 away from one of two");
    Due.is(1, x.best(0), "17 by new wear");
    Due.is(0, x.few(24), "18 it is so now");
    Due.is(1, x.few(23), "18 a change is enough now");
    Due.is(1, x.few(12), "18 a change is enough now, just so");
    Due.is(-5, x.few(11), "18 no change is");
    Due.is(1, x.best(1), "17 without the middle one");
    Due.is(1, x.odds(0, 0), "22 without the middle one");
    Due.is(3, x.odds(0, 1), "22 without the middle one, of three");
  }

  private static void withCorks() {
    BesideTom x = Due.of(0, 0, 5, 0, 0, 0, 5, 0, 5, 0, 5, 0);
    Due.is(4, x.told(4), "14 two who have two corks near each");
    Due.is(4, x.quietest(0), "14 corks on all sides");
    Due.is(0, x.quietest(10), "14 corks on all sides, the first desk");
    Due.is(2, x.quietest(12), "14 corks on all sides, the first that is apart");
    Due.is(4, x.on(2, 0), "14 corks are corks on other weeks");
  }

  private static void bothOfNobody() {
    BesideTom x = new BesideTom();
    Due.is(0, x.quietest(0), "14 nobody");
    Due.is(0, x.wisest(0), "15 nobody");
    Due.is(-1, x.quietest(10), "14 nobody's desk");
    Due.is(-1, x.wisest(10), "15 nobody's desk");
  }

  private static void seat() {
    BesideTom x = Due.of(0, 0, 0, 0);
    Due.is(3, x.seat(0), "16 the first that is not next to the other");
    Due.is(2, x.seat(1), "16 likewise for the other");
    x.pass(9);
    Due.is(3, x.seat(0), "16 wear does not matter");
    Due.is(9, x.told(1), "16 wear is not touched");
    Due.is(0, x.of(0, 2), "16 nobody moves");
    Due.is(-1, x.seat(2), "16 no such pupil");
    Due.is(-1, x.seat(-1), "16 pupil -1");
    BesideTom y = Due.of(0, 0, 4, 0);
    Due.room(y, "chat 9 p=1;hush 3 d=5&p=1");
    y.move(1, 5);
    Due.is(5, y.seat(1), "16 where it sits");
    Due.is(0, y.seat(0), "16 where it sits, the first that is apart");
    y.away(1, true);
    y.move(0, 4);
    Due.is(0, y.seat(0), "16 all alike, the first");
  }

  private static void change() {
    BesideTom x = Due.of(0, 0, 0, 0, 0, 0);
    Due.is(-5, x.best(0), "17 no change is of use");
    x.pass(3);
    Due.is(1, x.best(0), "17 by new wear, the first two");
    Due.is(3, x.told(1), "17 wear is not touched");
    BesideTom y = Due.of(0, 0, 4, 0, 0, 0);
    Due.room(y, LOUD_ONE);
    Due.is(30, y.told(4), "17 tom in the middle: 3 and 24 and 3");
    Due.is(12, y.best(0), "17 tom to desk 2: 3 and 6 and 16");
    Due.is(1, y.of(1, 2), "17 nobody moves");
    y.move(1, 2);
    Due.is(-5, y.best(0), "17 it is best now");
    BesideTom z = Due.of(4, 0);
    z.pass(60);
    Due.is(-5, z.best(0), "17 one has nobody to change with");
    Due.is(-5, new BesideTom().best(0), "17 nobody");
    Due.is(-1, z.best(2), "17 what 2");
    Due.is(-1, z.best(-1), "17 what -1");
  }

  private static void worst() {
    BesideTom x = Due.of(0, 0, 0, 0, 0, 0);
    Due.is(1, x.best(1), "17 without the middle one nobody talks");
    Due.is(0, x.of(1, 4), "17 nobody goes");
    x.away(1, true);
    Due.is(0, x.best(1), "17 of several the first");
    x.away(0, true);
    x.away(2, true);
    Due.is(0, x.best(1), "17 of all that are away the first");
    BesideTom y = Due.of(0, 0, 0, 0, 5, 0, 0, 0);
    // 0 and 3 and 1 beside each other, the cork beside 1: without 0 NOISE is 1.
    Due.is(0, y.best(1), "17 the one beside two");
    y.away(0, true);
    y.away(3, true);
    // Without the one who is away already NOISE is 1, without 1 it is 0.
    Due.is(1, y.best(1), "17 the last who talks");
    Due.is(-5, new BesideTom().best(1), "17 nobody");
  }

  private static void few() {
    BesideTom x = Due.of(0, 0, 4, 0, 0, 0);
    Due.room(x, LOUD_ONE);
    Due.is(0, x.few(30), "18 it is now");
    Due.is(0, x.few(999), "18 by far");
    Due.is(1, x.few(29), "18 one change");
    Due.is(1, x.few(25), "18 one change, just so");
    Due.is(-5, x.few(24), "18 none is enough");
    Due.is(-5, x.few(0), "18 none is enough for 0");
    Due.is(1, x.of(1, 2), "18 nobody moves");
    Due.is(-2, x.few(-1), "18 below 0");
    Due.is(-2, x.few(1000), "18 above 999");
    BesideTom y = Due.of(0, 0, 0, 0);
    Due.room(y, "chat 50 p=0&d=1");
    y.pass(3);
    Due.is(0, y.few(8), "18 noise is 8 by wear");
    Due.is(2, y.few(7), "18 there and back: the plan is new");
    Due.is(2, y.few(6), "18 there and back, just so");
    Due.is(-5, y.few(5), "18 no change is enough");
    Due.is(3, y.told(1), "18 wear is not touched");
    BesideTom z = Due.of(4, 0);
    z.pass(3);
    Due.is(0, z.few(3), "18 one alone");
    Due.is(-5, z.few(2), "18 one has nobody to change with");
    Due.is(0, new BesideTom().few(0), "18 nobody");
  }

  private static void fewByTurns() {
    String turns = "chat 9 p=0&!d=1|p=1&!d=2|p=2&!d=";
    BesideTom three = Due.of(0, 0, 0, 0, 0, 0);
    Due.room(three, turns + "0");
    Due.is(2, three.few(12), "18 three in turn");
    Due.is(-5, three.few(11), "18 it is no quieter");
    BesideTom four = Due.of(0, 0, 0, 0, 0, 0, 0, 0);
    Due.room(four, turns + "3|p=3&!d=0");
    Due.is(3, four.few(18), "18 four in turn");
    Due.is(-5, four.few(17), "18 it is no quieter");
    BesideTom five = Due.of(0, 0, 0, 0, 0, 0, 0, 0, 0, 0);
    Due.room(five, turns + "3|p=3&!d=4|p=4&!d=0");
    Due.is(-5, five.few(30), "18 five in turn are four changes");
    Due.is(30, five.quietest(0), "18 though it is as quiet then");
  }
}
