import java.lang.management.ManagementFactory;

/** Rows are made in the constructor and used again: the calls themselves make nothing. */
public final class Room {
  private static long sum;

  private static void someCalls(HouseFiddles x) {
    x.town();
    for (int k = 0; k < 6; k++) x.board(k, 15 * k, k, k % 4);
    for (int k = 0; k < 4; k++) x.make(k);
    x.clear();
    for (int k = 0; k < 5; k++) x.type("town;".charAt(k));
    x.worm(2, 1); x.wet(1, 1); x.cuts(0, 0); x.cuts(1, 0); x.year(3); x.takes(0); x.dries(4, 1); x.undo();
    x.heard(0, 9); x.note(0, 1, 1, 1, 1); x.mark(0, 1, 1, 1, 1, 1);
    for (int s = 0; s < 4; s++) for (int b = -1; b < 6; b++) sum += x.best(s, b) + x.tune(b, s, 13) + x.weeps(b, s, 3) + x.dry(b, s, 40);
    for (int k = 0; k < 4; k++) sum += x.look(k) + x.ask(k) + x.is(k) + x.kinds(k) + x.bids(k, 1) + x.then(k, k, 60) + x.waits(k, k, 60) + x.together(k, k);
    sum += x.orchestra() + x.whose() + x.tells() + x.generations(7, 60) + x.digest() + x.of(0, 0) + x.about(0, 2) + x.sounds(0, 0) + x.plays(0, 0);
    x.image(0); x.read(); x.from(0); x.forget(0); x.part(0); x.status(0); x.count(0);
  }

  public static void main(String[] args) {
    if (!(ManagementFactory.getThreadMXBean() instanceof com.sun.management.ThreadMXBean)) {
      System.out.println("room: it is not counted here");
      return;
    }
    com.sun.management.ThreadMXBean bean = (com.sun.management.ThreadMXBean) ManagementFactory.getThreadMXBean();
    long me = Thread.currentThread().getId();
    HouseFiddles x = new HouseFiddles();
    for (int k = 0; k < 20; k++) someCalls(x);
    long before = bean.getThreadAllocatedBytes(me);
    long idle = bean.getThreadAllocatedBytes(me) - before;
    before = bean.getThreadAllocatedBytes(me);
    for (int k = 0; k < 20; k++) someCalls(x);
    long made = bean.getThreadAllocatedBytes(me) - before - idle;
    before = bean.getThreadAllocatedBytes(me);
    for (int k = 0; k < 100; k++) sum += new HouseFiddles().count(0);
    long each = (bean.getThreadAllocatedBytes(me) - before - idle) / 100;
    boolean small = made < 2000 && each < 40000;
    System.out.println("room: 20 rounds of calls made " + made + " bytes, an object " + each + (small ? "" : ": too much") + (sum == 0 ? " " : ""));
    if (!small) System.exit(1);
  }
}
