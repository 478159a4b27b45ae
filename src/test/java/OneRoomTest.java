import java.lang.management.ManagementFactory;

/** All calls of a run live in one room: an object is made once, and no call makes anything more. */
public final class OneRoomTest {
  private static final int CALLS = 512;
  private static final String TEXT = "chat 9 (((!p=1|d=2)&k>3)|v<5)&!(r=1&c=2);hush 2 p=4|p=5|d=0;wear 2;cost 7";

  private OneRoomTest() {}

  public static void main(String[] args) {
    com.sun.management.ThreadMXBean bean = (com.sun.management.ThreadMXBean) ManagementFactory.getThreadMXBean();
    if (!bean.isThreadAllocatedMemorySupported()) {
      System.out.println("OneRoomTest: what is made cannot be counted here");
      return;
    }
    long me = Thread.currentThread().getId();
    runs(new BesideTom());
    long start = bean.getThreadAllocatedBytes(me);
    long counting = bean.getThreadAllocatedBytes(me) - start;
    start = bean.getThreadAllocatedBytes(me);
    BesideTom x = new BesideTom();
    long made = bean.getThreadAllocatedBytes(me) - start - counting;
    start = bean.getThreadAllocatedBytes(me);
    long answers = runs(x);
    long more = bean.getThreadAllocatedBytes(me) - start - counting;
    boolean fine = made < 20000 && more <= 0;
    System.out.println("OneRoomTest: " + made + " bytes at first, " + more + " by " + CALLS + " calls (" + answers + ")");
    if (!fine) System.exit(1);
  }

  private static long runs(BesideTom x) {
    long sum = 0;
    for (int kind = 0; kind < 6; kind++) sum += x.pupil(kind + 1, 9 - kind);
    for (int i = 0; i < TEXT.length(); i++) sum += x.feed(TEXT.charAt(i));
    sum += x.room() + x.image();
    for (int i = 0; i < 4; i++) sum += x.term(0, 0) + x.hear(40, i) + x.book(0, 0) + x.tape(i, i, 60);
    for (int calls = 6 + TEXT.length() + 2 + 16; calls < CALLS; calls += 22) {
      sum += x.quietest(0) + x.wisest(0) + x.few(0) + x.seat(0) + x.best(0) + x.best(1) + x.where(0) + x.can(0, 0);
      sum += x.odds(9, 0) + x.mean(0) + x.ends(1) + x.looked() + x.loud(999) + x.on(60, 1) + x.act(5, 2, 9) + x.undo();
      sum += x.shift(0, 0, 0, 1, 9) + x.tape(5, 3, 60) + x.item(5, 0, 7) + x.read(5, 0) + x.judge(0, 0) + x.pass(1);
    }
    return sum;
  }
}
