/** Promises 24 to 30: term, ends, book, looked, judge, image, undo. */
public final class TermsTest {
  private TermsTest() {}

  public static void main(String[] args) {
    term();
    ends();
    endsOfUnlike();
    endsBeyond();
    book();
    looked();
    judge();
    imageAndUndo();
    imageOfPupilsAndRooms();
    imageKeepsNothingElse();
    Due.ends("TermsTest");
  }

  private static void term() {
    BesideTom x = new BesideTom();
    Due.is(-1, x.term(3, 0), "24 3 with nobody");
    Due.is(-1, x.term(1, 0), "24 1 with nobody");
    Due.is(1, x.term(0, -99), "24 by 0 n does not matter");
    x.pupil(0, 0);
    x.pupil(0, 0);
    Due.is(2, x.term(1, 1), "24 away");
    Due.is(3, x.term(2, 1), "24 not away");
    Due.is(4, x.term(3, 5), "24 moves");
    Due.is(-1, x.term(4, 0), "24 what 4");
    Due.is(-1, x.term(-2, 0), "24 what -2");
    Due.is(-1, x.term(1, 2), "24 1: no such pupil");
    Due.is(-1, x.term(2, -1), "24 2: pupil -1");
    Due.is(-1, x.term(3, 6), "24 3: no such desk");
    Due.is(-1, x.term(3, -1), "24 3: desk -1");
    for (int i = 5; i <= 10; i++) Due.is(i, x.term(0, 0), "24 row " + i);
    Due.is(-4, x.term(0, 0), "24 full");
    Due.is(-1, x.term(1, 2), "24 none ahead of full");
    Due.is(10, x.count(3), "24 ten");
    Due.is(0, x.term(-1, 99), "24 empty");
    Due.is(0, x.count(3), "24 none");
    Due.is(1, x.term(2, 0), "24 the first again");
  }

  private static void endsAre(BesideTom x, int noise, int knows, String what) {
    Due.is(noise, x.ends(0), "25 noise behind " + what);
    Due.is(knows, x.ends(1), "25 knows behind " + what);
  }

  private static void ends() {
    BesideTom x = Due.of(0, 0, 0, 0);
    endsAre(x, 6, 0, "nothing");
    x.term(0, 0);
    endsAre(x, 6, 18, "a week");
    x.term(1, 1);
    endsAre(x, 0, 18, "one goes");
    x.term(0, 0);
    endsAre(x, 0, 28, "a week without it");
    x.term(2, 1);
    endsAre(x, 6, 28, "it comes back");
    x.term(0, 0);
    endsAre(x, 8, 46, "a third week");
    x.term(3, 0);
    endsAre(x, 6, 46, "a move to where it sits");
    x.term(3, 1);
    endsAre(x, 6, 46, "a change");
    x.term(3, 5);
    endsAre(x, 0, 46, "a move away");
    x.term(0, 5);
    endsAre(x, 0, 66, "a week apart");
    Due.is(0, x.told(0), "25 no week went");
    Due.is(0, x.of(0, 2), "25 nobody moved");
    Due.is(0, x.of(1, 4), "25 nobody is away");
    Due.is(0, x.told(5), "25 nobody knows more");
    Due.is(-1, x.ends(2), "25 what 2");
    Due.is(-1, x.ends(-1), "25 what -1");
    x.term(-1, 0);
    x.away(1, true);
    x.pass(1);
    endsAre(x, 0, 10, "nothing, from how all is");
    x.term(0, 0);
    x.term(2, 1);
    endsAre(x, 6, 20, "from how all is");
  }

  private static void endsOfUnlike() {
    BesideTom x = Due.of(1, 9, 0, 0, 5, 0);
    endsAre(x, 12 + 4, 0, "nothing, with a cork");
    x.term(3, 5);
    endsAre(x, 10 + 1, 0, "pupil 0 moves beside the cork");
    BesideTom one = Due.of(4, 9);
    Due.is(1, one.term(3, 0), "24 3 with one");
    endsAre(one, 3, 0, "a move of one alone");
  }

  private static void endsBeyond() {
    BesideTom x = Due.of(0, 0, 6, 0);
    x.line(1, 0, 9);
    for (int i = 0; i < 166; i++) x.pass(60);
    x.pass(39);
    x.knows(0, 9999);
    x.knows(1, 9999);
    x.away(0, true);
    x.term(0, 0);
    endsAre(x, 9, 2 * 9999 + 10, "a week beyond 9999");
    x.knows(0, 0);
    x.term(2, 0);
    // 3 and 3, 9 by the line of WEEK 10000, and 33 each by WEAR 99.
    endsAre(x, 81, 9999 + 10, "it comes back, with all the wear");
  }

  private static void book() {
    BesideTom x = new BesideTom();
    Due.is(-1, x.book(0, 0), "26 nobody");
    Due.is(0, x.book(-1, 9), "26 empty");
    x.pupil(0, 0);
    Due.is(1, x.book(0, 0), "26 a row");
    Due.is(-1, x.book(1, 0), "26 no such pupil");
    Due.is(-1, x.book(-2, 0), "26 pupil -2");
    Due.is(-1, x.book(0, 6), "26 no such desk");
    Due.is(-1, x.book(0, -1), "26 desk -1");
    for (int i = 2; i <= 8; i++) Due.is(i, x.book(0, 5), "26 row " + i);
    Due.is(-4, x.book(0, 0), "26 full");
    Due.is(-1, x.book(0, 6), "26 none ahead of full");
    Due.is(8, x.count(4), "26 eight");
    Due.is(0, x.book(-1, 0), "26 empty again");
    Due.is(0, x.count(4), "26 none");
  }

  private static void looked() {
    BesideTom x = Due.of(0, 0, 0, 0, 0, 0);
    Due.is(-5, x.looked(), "27 an empty book");
    x.book(2, 2);
    x.book(0, 0);
    x.book(1, 1);
    Due.is(-5, x.looked(), "27 all is so");
    x.book(2, 0);
    Due.is(3, x.looked(), "27 the last row");
    x.move(1, 4);
    Due.is(2, x.looked(), "27 the first of two rows");
    x.move(2, 0);
    Due.is(0, x.looked(), "27 the first row");
    x.book(-1, 0);
    Due.is(-5, x.looked(), "27 an empty book again");
  }

  private static void judge() {
    BesideTom x = new BesideTom();
    Due.is(-5, x.judge(0, 0), "28 nobody to look at");
    x.tape(1, 1, 3);
    Due.is(-12, x.judge(1, 0), "28 shorts, with nobody");
    x.pupil(0, 0);
    x.pupil(0, 0);
    x.pupil(0, 0);
    Due.is(100, x.judge(0, 0), "28 the tape holds nothing");
    Due.is(-1, x.judge(6, 0), "28 no such tape");
    Due.is(-1, x.judge(-1, 0), "28 tape -1");
    for (int sort = 1; sort <= 4; sort++) {
      x.tape(2, sort, 3);
      Due.is(-12, x.judge(2, -1), "28 sort " + sort);
    }
    x.tape(0, 0, 5);
    Due.is(1, x.judge(0, 0), "28 pupil 1 is not at 0");
    x.item(0, 1, 1);
    Due.is(2, x.judge(0, 0), "28 nor is pupil 2");
    x.item(0, 2, 2);
    Due.is(-5, x.judge(0, 0), "28 all is so");
    Due.is(0, x.judge(0, 1), "28 from place 1 on");
    x.move(0, 4);
    Due.is(0, x.judge(0, 0), "28 pupil 0 has moved");
    x.item(0, 0, 4);
    Due.is(-5, x.judge(0, 0), "28 all is so again");
    x.item(0, 0, 256 + 4);
    Due.is(-5, x.judge(0, 0), "28 a byte's lowest bits");
    x.item(0, 3, 4);
    x.item(0, 4, 1);
    Due.is(102, x.judge(0, 3), "28 the row ends behind two");
    x.item(0, 4, 4);
    Due.is(101, x.judge(0, 4), "28 the row ends behind one");
    Due.is(1, x.judge(0, 3), "28 otherwise ahead of the end");
    Due.is(100, x.judge(0, 5), "28 the row ends at once");
    Due.is(100, x.judge(0, -1), "28 the place is below 0");
    Due.is(100, x.judge(0, Integer.MIN_VALUE), "28 the place is far below 0");
    Due.is(100, x.judge(0, Integer.MAX_VALUE), "28 the place is far off");
    x.tape(0, 0, 0);
    Due.is(100, x.judge(0, 0), "28 a row of none");
    BesideTom y = new BesideTom();
    y.tape(0, 0, 2);
    Due.is(-5, y.judge(0, -1), "28 nobody to look at, below 0");
    Due.is(-5, y.judge(0, 9), "28 nobody to look at, behind the end");
  }

  private static void imageAndUndo() {
    BesideTom x = new BesideTom();
    Due.is(-3, x.undo(), "30 there is none");
    Due.is(0, x.image(), "29 of nobody");
    x.pupil(6, 3);
    x.pupil(0, 4);
    Due.is(0, x.undo(), "30 nobody again");
    Due.is(0, x.count(0), "30 nobody is there");
    Due.is(-5, x.told(10), "30 nobody has desk 0");
    x.pupil(6, 3);
    x.pupil(0, 4);
    x.line(0, 2, 8);
    x.knows(1, 70);
    x.away(1, true);
    x.move(0, 5);
    x.pass(2);
    x.hear(3, 0);
    x.term(0, 0);
    x.book(0, 5);
    Due.is(2, x.image(), "29 of two");
    x.line(0, 2, 1);
    x.knows(1, 0);
    x.away(1, false);
    x.pass(5);
    x.move(0, 2);
    x.pupil(4, 9);
    x.hear(4, 1);
    x.term(3, 0);
    x.book(0, 2);
    for (int again = 0; again < 2; again++) {
      Due.is(2, x.undo(), "30 two again");
      Due.is(2, x.count(0), "30 pupils");
      Due.is(5, x.of(0, 2), "30 desk");
      Due.is(70, x.of(1, 3), "30 knows");
      Due.is(1, x.of(1, 4), "30 away");
      Due.is(2, x.told(0), "30 week");
      Due.is(2, x.told(1), "30 wear");
      Due.is(8, x.of(0, 7), "30 line");
      Due.is(1, x.count(2), "30 heard");
      Due.is(1, x.count(3), "30 the term");
      Due.is(1, x.count(4), "30 the book");
      Due.is(-5, x.looked(), "30 the book's row");
      Due.is(8, x.pass(4), "30 all goes on from there");
      x.hear(-1, 0);
      x.term(-1, 0);
      x.book(-1, 0);
      x.away(1, false);
    }
    x.undo();
    Due.is(2, x.pupil(5, 1), "30 the next number");
    Due.is(0, x.of(2, 2), "30 the least desk that is free");
    Due.is(0, x.of(2, 3), "30 a new one knows nothing");
    Due.is(0, x.of(2, 4), "30 a new one is not away");
    Due.is(3, x.image(), "29 the newer one");
    x.pupil(0, 0);
    Due.is(3, x.undo(), "30 the newer one");
  }

  private static void imageOfPupilsAndRooms() {
    BesideTom x = Due.of(0, 5, 0, 6);
    x.image();
    Due.is(0, Due.room(x, "chat 2 v=5;wear 7;cost 8"), "30 a room");
    Due.is(5, x.of(0, 10), "30 it holds");
    Due.is(2, x.undo(), "30 undone");
    Due.is(1, x.count(1), "30 the room is still there");
    Due.is(3, x.of(0, 10), "30 but does not hold");
    Due.is(3, x.told(2), "30 wears without");
    Due.is(4, x.told(3), "30 cost without");
    x.pupil(0, 5);
    Due.is(3, x.of(2, 10), "30 nor for one who comes then");
    Due.is(1, Due.room(x, "chat 4 v=5;wear 5"), "30 another room");
    x.image();
    Due.is(2, Due.room(x, "hush 1 v=5;wear 6"), "30 a third");
    x.undo();
    Due.is(5, x.told(2), "30 the older room holds again");
    Due.is(7, x.of(0, 10), "30 its mouth");
    x.pupil(0, 5);
    Due.is(7, x.of(3, 10), "30 for one who comes then");
    x.hear(0, 0);
    x.can(0, 0);
    Due.is(7, x.of(0, 10), "30 its mouth, asked by others");
    Due.is(3, Due.room(x, "cost 9"), "30 a fourth");
    Due.is(9, x.told(3), "30 the newest holds");
    x.undo();
    Due.is(3, x.count(0), "30 three");
    x.pupil(1, 2);
    Due.is(1, x.of(3, 0), "30 another kind in the same place");
    Due.is(3, x.of(3, 10), "30 another mouth");
    BesideTom last = Due.of(0, 0, 0, 0, 0, 0, 0, 0, 0, 0, 6, 0);
    last.line(5, 0, 7);
    last.image();
    last.line(5, 0, 1);
    last.undo();
    Due.is(7, last.line(5, 0, 2), "30 the line of the last");
    BesideTom y = Due.of(5, 0);
    y.undo();
    y.image();
    y.pupil(5, 1);
    y.undo();
    y.pupil(0, 1);
    Due.is(1, y.of(1, 7), "30 one cork");
    Due.is(0, y.of(0, 7), "30 no cork in its place");
    BesideTom z = Due.of(0, 0);
    z.image();
    z.pupil(5, 1);
    z.undo();
    z.pupil(0, 1);
    Due.is(3, z.of(0, 7), "30 no cork any more");
  }

  private static void imageKeepsNothingElse() {
    BesideTom x = Due.of(0, 0);
    x.image();
    x.feed('c');
    x.feed('h');
    x.tape(0, 2, 3);
    x.item(0, 1, 9);
    x.act(0, 2, 1);
    x.undo();
    Due.is(2, x.count(5), "30 the text stays");
    Due.is(9, x.read(0, 1), "30 the tapes stay");
    Due.is(3, x.count(6), "30 the trace stays");
    Due.is(12, x.trace(0), "30 the trace's bodies stay");
  }
}
