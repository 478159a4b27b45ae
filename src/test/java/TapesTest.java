/** Promises 35 to 38: tape, item, read, shift. */
public final class TapesTest {
  private TapesTest() {}

  public static void main(String[] args) {
    tape();
    itemBySort();
    itemRefused();
    read();
    shift();
    shiftRefused();
    Due.ends("TapesTest");
  }

  private static void tape() {
    BesideTom x = new BesideTom();
    for (int sort = 0; sort < 5; sort++) {
      Due.is(1, x.tape(sort, sort, 60), "35 sort " + sort);
      Due.is(0, x.read(sort, 0), "35 all 0");
      Due.is(0, x.read(sort, 59), "35 all 0 to the end");
      Due.is(BesideTom.NO, x.read(sort, 60), "35 the end");
    }
    Due.is(-1, x.tape(-1, 0, 1), "35 tape -1");
    Due.is(-1, x.tape(6, 9, 99), "35 tape 6, ahead of the rest");
    Due.is(-2, x.tape(0, 5, -1), "35 sort 5, ahead of the size");
    Due.is(-2, x.tape(0, -2, 1), "35 sort -2");
    Due.is(-2, x.tape(0, 0, 61), "35 n 61");
    Due.is(-14, x.tape(0, 0, -1), "35 n -1");
    Due.is(-14, x.tape(0, 4, Integer.MIN_VALUE), "35 n far below 0");
    Due.is(0, x.read(0, 59), "35 nothing changed");
    for (int i = 0; i < 60; i++) x.item(0, i, 7);
    Due.is(1, x.tape(0, 0, 60), "35 anew");
    for (int i = 0; i < 60; i++) Due.is(0, x.read(0, i), "35 all 0 again");
    x.item(0, 3, 7);
    Due.is(1, x.tape(0, -1, 99), "35 nothing, n above 60");
    Due.is(-11, x.item(0, 0, 1), "35 it holds nothing");
    Due.is(1, x.tape(0, -1, -9), "35 nothing, n below 0");
    Due.is(1, x.tape(0, 2, 5), "35 ints");
    Due.is(0, x.read(0, 3), "35 all 0 behind nothing");
    Due.is(1, x.tape(0, 2, 0), "35 a row of none");
    Due.is(-13, x.item(0, 0, 1), "35 it has no place");
  }

  private static void itemBySort() {
    long[] given = {0, 1, -1, 127, 128, 200, 255, 256, 32767, 32768, 65536, 70000,
      2147483647L, 2147483648L, 4294967296L, 9999999999L, Long.MAX_VALUE, Long.MIN_VALUE};
    for (long v : given) {
      BesideTom x = new BesideTom();
      long[] due = {(byte) v, (short) v, (int) v, v, v != 0 ? 1 : 0};
      for (int sort = 0; sort < 5; sort++) {
        x.tape(sort, sort, 2);
        Due.is(1, x.item(sort, 1, v), "36 item of sort " + sort);
        Due.is(due[sort], x.read(sort, 1), "36 " + v + " as sort " + sort);
        Due.is(0, x.read(sort, 0), "36 the other place");
      }
    }
  }

  private static void itemRefused() {
    BesideTom x = new BesideTom();
    x.tape(1, 0, 3);
    Due.is(-1, x.item(-1, 0, 1), "36 tape -1");
    Due.is(-1, x.item(6, -1, 1), "36 tape 6");
    Due.is(-11, x.item(0, -1, 1), "36 nothing, ahead of the place");
    Due.is(-13, x.item(1, -1, 1), "36 place -1");
    Due.is(-13, x.item(1, 3, 1), "36 place 3");
    Due.is(1, x.item(1, 2, 1), "36 place 2");
  }

  private static void read() {
    BesideTom x = new BesideTom();
    x.tape(5, 3, 2);
    x.item(5, 0, 8);
    Due.is(8, x.read(5, 0), "37 an item");
    Due.is(0, x.read(5, 1), "37 another");
    Due.is(BesideTom.NO, x.read(5, 2), "37 no such place");
    Due.is(BesideTom.NO, x.read(5, -1), "37 place -1");
    Due.is(BesideTom.NO, x.read(4, 0), "37 nothing there");
    Due.is(BesideTom.NO, x.read(6, 0), "37 no such tape");
    Due.is(BesideTom.NO, x.read(-1, 0), "37 tape -1");
    x.tape(5, -1, 0);
    Due.is(BesideTom.NO, x.read(5, 0), "37 nothing there any more");
  }

  private static void row(BesideTom x, int tape, long... due) {
    for (int i = 0; i < due.length; i++) Due.is(due[i], x.read(tape, i), "38 tape " + tape + " place " + i);
  }

  private static void shift() {
    BesideTom x = new BesideTom();
    x.tape(0, 1, 5);
    x.tape(1, 1, 4);
    for (int i = 0; i < 5; i++) x.item(0, i, i + 1);
    Due.is(2, x.shift(0, 1, 1, 2, 2), "38 to another");
    row(x, 1, 0, 0, 2, 3);
    row(x, 0, 1, 2, 3, 4, 5);
    Due.is(4, x.shift(0, 0, 0, 1, 4), "38 to the same, up");
    row(x, 0, 1, 1, 2, 3, 4);
    Due.is(4, x.shift(0, 1, 0, 0, 4), "38 to the same, down");
    row(x, 0, 1, 2, 3, 4, 4);
    Due.is(5, x.shift(0, 0, 0, 0, 5), "38 all to where it is");
    row(x, 0, 1, 2, 3, 4, 4);
    Due.is(0, x.shift(0, 5, 1, 4, 0), "38 none, at either's end");
    Due.is(4, x.shift(1, 0, 0, 1, 4), "38 back");
    row(x, 0, 1, 0, 0, 2, 3);
  }

  private static void shiftRefused() {
    BesideTom x = new BesideTom();
    x.tape(0, 1, 5);
    x.tape(1, 1, 4);
    x.tape(2, 2, 4);
    Due.is(-1, x.shift(-1, 0, 3, 0, 1), "38 tape -1");
    Due.is(-1, x.shift(3, 0, 6, 0, 1), "38 other 6");
    Due.is(-1, x.shift(6, 0, 0, 0, 1), "38 tape 6");
    Due.is(-1, x.shift(0, 0, -1, 0, 1), "38 other -1");
    Due.is(-11, x.shift(3, -1, 0, 0, 1), "38 tape holds nothing");
    Due.is(-11, x.shift(2, 0, 3, 0, -1), "38 other holds nothing");
    Due.is(-12, x.shift(0, -1, 2, 0, 1), "38 unlike sorts");
    Due.is(-13, x.shift(0, 0, 1, 0, -1), "38 n -1");
    Due.is(-13, x.shift(0, -1, 1, 0, 1), "38 i -1");
    Due.is(-13, x.shift(0, 0, 1, -1, 1), "38 j -1");
    Due.is(-13, x.shift(0, 2, 1, 0, 4), "38 beyond the tape's end");
    Due.is(-13, x.shift(0, 0, 1, 1, 4), "38 beyond the other's end");
    Due.is(-13, x.shift(0, 6, 1, 0, 0), "38 none, beyond the tape's end");
    Due.is(-13, x.shift(0, 0, 1, 5, 0), "38 none, beyond the other's end");
    Due.is(-13, x.shift(0, Integer.MAX_VALUE, 1, 0, Integer.MAX_VALUE), "38 far off");
    Due.is(-13, x.shift(0, 1, 1, Integer.MAX_VALUE, 2), "38 j far off");
    Due.is(-13, x.shift(0, 1, 1, 1, Integer.MAX_VALUE), "38 n far off");
  }
}
