import com.sun.management.ThreadMXBean;
import java.lang.management.ManagementFactory;

/** All is made with the object: no call makes anything. And an object is small. */
public final class RoomTest {
  private static final ThreadMXBean ROOM = (ThreadMXBean) ManagementFactory.getThreadMXBean();

  public static void main(String[] args) {
    anObjectIsSmall();
    callsMakeNothing();
    Due.end();
  }

  private static long made() { return ROOM.getThreadAllocatedBytes(Thread.currentThread().getId()); }

  private static void anObjectIsSmall() {
    new LeafSweep();
    long ahead = made();
    LeafSweep x = new LeafSweep();
    long bytes = made() - ahead;
    Due.due("an object takes " + bytes + " bytes, at most 160,000, " + x.count(0), bytes <= 160_000, true);
  }

  private static void callsMakeNothing() {
    LeafSweep x = new LeafSweep();
    Due.table(x, HandTest.FOUR);
    Due.work(x, "begin;step 3;insert 9 9 9;crash;resume;step 9;");
    all(x);
    long ahead = made();
    for (int i = 0; i < 20; i++) all(x);
    long bytes = made() - ahead;
    Due.due("the calls made " + bytes + " bytes", bytes < 20_000, true);
  }

  private static long all(LeafSweep x) {
    long sum = x.feed(0x7061676520322020L, 0x2020202020202020L, 0x2020202020202020L);
    sum += x.table() + x.work() + x.insert(1, 2, 3) + x.begin(-1, 0, 0) + x.step() + x.crash() + x.resume() + x.pack(1);
    sum += (x.remove(3) ? 1 : 0) + (x.change(2, 1, 5) ? 1 : 0) + (x.stop() ? 1 : 0) + (x.undo() ? 1 : 0) + (x.drop(0) ? 1 : 0) + x.point(0, 4);
    for (int i = 0; i < 4; i++) {
      sum += x.judged(i) + x.found(i, 5) + (x.open(i, 0) ? 1 : 0) + x.fetch() + x.skips(i, 4) + x.stale(i) + x.missing(i) + x.side(i) + (x.splits(i, 3) ? 1 : 0);
      sum += x.fill(i) + x.sparse(i) + x.costs(i, 0) + x.ways() + x.turn(i) + x.lefts(i, 0) + x.when(i, 1) + x.next(i, 0) + x.job(i) + x.record(i, 0) + x.steps();
      sum += x.after(5, i) + x.during(3, 1, 1, 1, i) + x.crashes(3, 2) + x.runs(i, 2) + x.run(i, 2, 0) + x.merged(i, 2) + x.check(i) + x.hinders() + x.needs(i);
      sum += (x.fits(i, 0) ? 1 : 0) + (x.free(i) ? 1 : 0) + x.would(i, i, i) + x.count(i) + x.row(i, 5) + x.index(i, 2) + x.leaf(i, 0, 0) + x.pointer(i, 1);
    }
    return sum;
  }
}
