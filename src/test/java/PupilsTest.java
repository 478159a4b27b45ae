/** Promises 1 to 7: a new object, pupil, of, move, away, knows, line. */
public final class PupilsTest {
  private PupilsTest() {}

  public static void main(String[] args) {
    constants();
    aNewObject();
    pupil();
    ofPlainThings();
    ofNeighbours();
    ofVoiceAndTalk();
    ofTalkByWearAndCorks();
    ofLearns();
    ofMouth();
    ofWhoIsAway();
    move();
    away();
    knows();
    line();
    Due.ends("PupilsTest");
  }

  private static void constants() {
    Due.is(-1, BesideTom.NONE, "NONE");
    Due.is(-2, BesideTom.BAD, "BAD");
    Due.is(-3, BesideTom.STATE, "STATE");
    Due.is(-4, BesideTom.FULL, "FULL");
    Due.is(Long.MIN_VALUE, BesideTom.NO, "NO");
  }

  private static void aNewObject() {
    BesideTom x = new BesideTom();
    int[] told = {0, 0, 3, 4, 0, 0, 0};
    for (int what = 0; what < 7; what++) Due.is(told[what], x.told(what), "1 told " + what);
    for (int desk = 0; desk < 6; desk++) Due.is(-5, x.told(10 + desk), "1 told " + (10 + desk));
    for (int what = 0; what < 7; what++) Due.is(0, x.count(what), "1 count " + what);
    for (int tape = 0; tape < 6; tape++) Due.is(BesideTom.NO, x.read(tape, 0), "1 read " + tape);
    for (int tape = 0; tape < 6; tape++) Due.is(-11, x.item(tape, 0, 1), "1 item " + tape);
    Due.is(-3, x.undo(), "1 undo");
    Due.is(-1, x.trace(0), "1 trace");
    Due.is(-1, x.of(0, 0), "1 of");
  }

  private static void pupil() {
    BesideTom x = new BesideTom();
    Due.is(-1, x.pupil(-1, 0), "2 kind below 0");
    Due.is(-1, x.pupil(7, 0), "2 kind 7");
    Due.is(-1, x.pupil(7, 10), "2 kind ahead of v");
    Due.is(-2, x.pupil(0, -1), "2 v below 0");
    Due.is(-2, x.pupil(6, 10), "2 v 10");
    Due.is(0, x.count(0), "2 nobody came");
    Due.is(0, x.pupil(6, 0), "2 first");
    Due.is(0, x.move(0, 3), "2 moves away from 0");
    x.pass(2);
    Due.is(1, x.pupil(0, 9), "2 second");
    Due.is(0, x.of(1, 2), "2 the least free desk");
    Due.is(0, x.of(1, 3), "2 knows nothing at first");
    Due.is(0, x.of(1, 4), "2 not away at first");
    Due.is(2, x.told(1), "2 the plan stays as old");
    Due.is(2, x.pupil(1, 1), "2 third");
    Due.is(3, x.pupil(2, 2), "2 fourth");
    Due.is(4, x.pupil(3, 3), "2 fifth");
    Due.is(5, x.pupil(4, 4), "2 sixth");
    int[] desks = {3, 0, 1, 2, 4, 5};
    for (int p = 0; p < 6; p++) Due.is(desks[p], x.of(p, 2), "2 desk of " + p);
    Due.is(-4, x.pupil(5, 5), "2 full");
    Due.is(-2, x.pupil(5, 10), "2 v ahead of full");
    Due.is(-1, x.pupil(-1, 10), "2 kind ahead of full");
    Due.is(6, x.count(0), "2 six");
  }

  private static void ofPlainThings() {
    BesideTom x = Due.of(5, 8);
    Due.is(5, x.of(0, 0), "3 kind");
    Due.is(8, x.of(0, 1), "3 v");
    x.move(0, 4);
    Due.is(4, x.of(0, 2), "3 desk");
    x.knows(0, 77);
    Due.is(77, x.of(0, 3), "3 knows");
    x.away(0, true);
    Due.is(1, x.of(0, 4), "3 away");
    Due.is(-1, x.of(0, -1), "3 what -1");
    Due.is(-1, x.of(0, 9), "3 what 9");
    Due.is(-1, x.of(0, 16), "3 what 16");
    Due.is(-1, x.of(1, 0), "3 no such pupil");
    Due.is(-1, x.of(-1, 0), "3 pupil -1");
    Due.is(-1, x.of(Integer.MIN_VALUE, Integer.MIN_VALUE), "3 far off");
    Due.is(-1, x.of(0, Integer.MIN_VALUE + 9), "3 what far off");
  }

  private static void ofNeighbours() {
    BesideTom x = Due.of(0, 0, 0, 0, 0, 0, 0, 0, 0, 0, 0, 0);
    int[] near = {0b001010, 0b010101, 0b100010, 0b010001, 0b101010, 0b010100};
    for (int p = 0; p < 6; p++) Due.is(near[p], x.of(p, 5), "3 neighbours of " + p);
    x.move(0, 5);
    Due.is(0b010100, x.of(0, 5), "3 neighbours at 5");
    Due.is(0b001010, x.of(5, 5), "3 neighbours at 0");
    x.away(4, true);
    Due.is(0b000100, x.of(0, 5), "3 who is away is no neighbour");
    Due.is(0b001011, x.of(4, 5), "3 who is away has neighbours");
  }

  private static void ofVoiceAndTalk() {
    int[] alone = {0, 0, 0, 0, 3, 0, 0}, beside = {3, 10, 1, 3, 13, 0, 3};
    for (int kind = 0; kind < 7; kind++) {
      BesideTom x = Due.of(kind, 7);
      Due.is(alone[kind], x.of(0, 6), "3 voice alone of kind " + kind);
      Due.is(alone[kind], x.of(0, 7), "3 talk alone of kind " + kind);
      x.pupil(0, 0);
      Due.is(beside[kind], x.of(0, 6), "3 voice beside one of kind " + kind);
      Due.is(beside[kind], x.of(0, 7), "3 talk beside one of kind " + kind);
      x.move(0, 1);
      x.pupil(0, 0);
      int two = kind == 2 ? 3 : kind == 5 ? 0 : beside[kind] + 3;
      Due.is(two, x.of(0, 6), "3 voice beside two of kind " + kind);
    }
    BesideTom x = Due.of(6, 0);
    for (int part = 0; part < 4; part++) x.line(0, part, part + 2);
    for (int week = 0; week < 6; week++) {
      Due.is(2 + week % 4, x.of(0, 6), "3 voice by line in week " + week);
      x.pass(1);
    }
  }

  private static void ofTalkByWearAndCorks() {
    BesideTom x = Due.of(5, 1, 2, 0, 5, 1);
    Due.is(3, x.of(1, 6), "3 voice of a quiet one between corks");
    Due.is(0, x.of(1, 7), "3 talk is 0 at least");
    x.pass(3);
    Due.is(1, x.of(1, 7), "3 wear comes behind the corks");
    Due.is(0, x.of(0, 7), "3 a cork does not talk");
    x.away(0, true);
    x.away(2, true);
    Due.is(0, x.of(1, 7), "3 nobody near, no wear");
    x.away(0, false);
    Due.is(1, x.of(1, 7), "3 one cork near: 1 less 2 is 0, and wear is 1");
    Due.is(1, Due.of(5, 1, 0, 0).of(1, 7), "3 one cork: 3 less 2");
    BesideTom y = Due.of(0, 0, 0, 0);
    int[] talk = {3, 3, 3, 4, 4, 4, 5};
    for (int week = 0; week < 7; week++) {
      Due.is(talk[week], y.of(0, 7), "3 talk by wear in week " + week);
      y.pass(1);
    }
    y.move(1, 5);
    y.pass(6);
    Due.is(0, y.of(0, 7), "3 alone, wear does not matter");
  }

  private static void ofLearns() {
    int[] beside = {9, 7, 8, 9, 6, 2, 9};
    for (int kind = 0; kind < 7; kind++) {
      BesideTom x = Due.of(kind, 7);
      Due.is(kind == 5 ? 3 : 10, x.of(0, 8), "3 learns alone of kind " + kind);
      x.move(0, 4);
      int behind = kind == 3 || kind == 6 ? 5 : kind == 5 ? 3 : 10;
      Due.is(behind, x.of(0, 8), "3 learns behind of kind " + kind);
      x.move(0, 0);
      x.pupil(0, 0);
      // NOISE is 6, 13, 4, 6, 16, 1, 6.
      Due.is(beside[kind], x.of(0, 8), "3 learns beside one of kind " + kind);
    }
    BesideTom x = Due.of(3, 0, 5, 9);
    Due.room(x, "chat 99 p=0;cost 1");
    Due.is(0, x.of(0, 8), "3 learns 0 at least");
    Due.is(0, x.of(1, 8), "3 a cork learns 0 at least");
    BesideTom y = Due.of(0, 0, 0, 0);
    y.pass(2);
    Due.is(9, y.of(0, 8), "3 learns by noise 6");
    y.pass(1);
    Due.is(8, y.of(0, 8), "3 learns by noise 8");
  }

  private static void ofMouth() {
    BesideTom x = Due.of(1, 4, 6, 2);
    for (int d = 0; d < 6; d++) Due.is(3, x.of(0, 10 + d), "3 mouth without a room at " + d);
    Due.room(x, "chat 5 d>2;hush 2 c=1;chat 1 p=1;hush 7 d=0");
    int[] mouth = {0, 1, 3, 8, 6, 8}, other = {0, 2, 4, 9, 7, 9};
    for (int d = 0; d < 6; d++) Due.is(mouth[d], x.of(0, 10 + d), "3 mouth at " + d);
    for (int d = 0; d < 6; d++) Due.is(other[d], x.of(1, 10 + d), "3 mouth of the other at " + d);
    x.pupil(0, 0);
    Due.is(6, x.of(2, 14), "3 mouth of one who comes behind the room");
  }

  private static void ofWhoIsAway() {
    BesideTom x = Due.of(0, 0, 0, 0);
    x.away(1, true);
    Due.is(3, x.of(1, 6), "3 voice of one who is away");
    Due.is(0, x.of(1, 7), "3 talk of one who is away");
    Due.is(0, x.of(1, 8), "3 learns of one who is away");
    Due.is(0, x.of(0, 6), "3 voice beside one who is away");
    Due.is(10, x.of(0, 8), "3 learns beside one who is away");
  }

  private static void move() {
    BesideTom x = Due.of(0, 0, 0, 0, 4, 2);
    x.pass(3);
    Due.is(3, x.told(1), "4 wear ahead");
    Due.is(20, x.told(4), "4 noise ahead: 4 and 7 and 9");
    Due.is(17, x.move(2, 2), "4 it has that desk already: 3 and 6 and 8");
    Due.is(0, x.told(1), "4 wear is 0 then");
    x.pass(1);
    Due.is(17, x.move(2, 0), "4 tom in the other corner: 3 and 6 and 8");
    Due.is(0, x.told(1), "4 wear is 0 again");
    Due.is(0, x.of(2, 2), "4 its desk");
    Due.is(2, x.of(0, 2), "4 who had that");
    Due.is(17, x.move(2, 4), "4 to a free desk: 3 and 6 and 8");
    Due.is(11, x.move(1, 3), "4 one alone, one beside tom: 0 and 3 and 8");
    Due.is(-5, x.told(10), "4 the desk it had is free");
    Due.is(-1, x.move(3, 0), "4 no such pupil");
    Due.is(-1, x.move(-1, 0), "4 pupil -1");
    Due.is(-1, x.move(0, 6), "4 no such desk");
    Due.is(-1, x.move(0, -1), "4 desk -1");
    Due.is(4, x.of(2, 2), "4 nothing changes by it");
    BesideTom y = Due.of(0, 0, 0, 0);
    Due.room(y, "wear 1");
    y.pass(2);
    Due.is(10, y.told(4), "4 noise by wear 2");
    Due.is(6, y.move(0, 0), "4 noise by wear 0");
  }

  private static void away() {
    BesideTom x = Due.of(0, 0, 0, 0);
    Due.is(0, x.away(1, true), "5 was not");
    Due.is(1, x.away(1, true), "5 was");
    Due.is(0, x.told(4), "5 no noise");
    Due.is(1, x.told(11), "5 the desk is kept");
    Due.is(1, x.away(1, false), "5 was, till now");
    Due.is(0, x.away(1, false), "5 was not, again");
    Due.is(6, x.told(4), "5 noise again");
    Due.is(-1, x.away(2, true), "5 no such pupil");
    Due.is(-1, x.away(-1, false), "5 pupil -1");
  }

  private static void knows() {
    BesideTom x = Due.of(0, 0);
    Due.is(0, x.knows(0, 9999), "6 at first");
    Due.is(9999, x.knows(0, 12), "6 what it was");
    Due.is(-2, x.knows(0, 10000), "6 too much");
    Due.is(-2, x.knows(0, -1), "6 below 0");
    Due.is(-1, x.knows(1, 10000), "6 pupil ahead of n");
    Due.is(-1, x.knows(-1, 0), "6 pupil -1");
    Due.is(12, x.knows(0, 0), "6 nothing changed");
  }

  private static void line() {
    BesideTom x = Due.of(6, 0, 3, 0);
    Due.is(0, x.line(0, 3, 9), "7 at first");
    Due.is(9, x.line(0, 3, 4), "7 what it was");
    Due.is(0, x.line(0, 0, 1), "7 another part");
    Due.is(-1, x.line(2, 0, 10), "7 pupil ahead of n");
    Due.is(-1, x.line(-1, 0, 1), "7 pupil -1");
    Due.is(-1, x.line(0, 4, 10), "7 part ahead of n");
    Due.is(-1, x.line(0, -1, 1), "7 part -1");
    Due.is(-2, x.line(0, 0, 10), "7 n above 9");
    Due.is(-2, x.line(0, 0, -1), "7 n below 0");
    Due.is(-2, x.line(1, 0, 10), "7 n ahead of the kind");
    Due.is(-3, x.line(1, 0, 1), "7 another kind");
    Due.is(1, x.line(0, 0, 0), "7 nothing changed");
  }
}
