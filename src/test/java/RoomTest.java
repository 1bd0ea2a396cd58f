import java.lang.management.ManagementFactory;

/** All calls of a run share one room: an object's rows are few enough, and its calls make none. */
public final class RoomTest {
  // The room has 7.3 million elements; nearly all rows have four or eight bytes an element.
  private static final long MOST_FOR_OBJECT = 1_500_000;
  private static final long MOST_FOR_CALLS = 200_000;

  private static long allocated() {
    return ((com.sun.management.ThreadMXBean) ManagementFactory.getThreadMXBean())
        .getThreadAllocatedBytes(Thread.currentThread().getId());
  }

  private static long dearCalls(MintHouse x) {
    long all = 0;
    for (int v = 0; v < 12; v++) {
      all += x.coin(0, 289 + v) + x.coin(1, 10 + 24 * v);
    }
    all += x.coin(2, 299) + x.coin(2, 300) + x.coin(3, 1) + x.coin(3, 16);
    x.open(0, 1);
    x.open(1, 0);
    for (int v = 0; v < 12; v++) {
      all += x.fill(0, 10 + 24 * v, 11) + x.fill(1, 289 + v, 5);
    }
    // With these rounds the object is asked 510 times of the 512 that it serves.
    for (int round = 0; round < 19; round++) {
      all += x.fewest(round % 4, 88_000) + x.with(2, 89_000, 0) + x.span(round % 4, 89_400, 100_000);
      all += x.gap(2, 40_000) + x.last(2) + x.many(2) + (x.mirror(2) ? 1 : 0) + x.needed(0) + x.fails(0);
      all += x.join(0, 2, 7) + x.part(0, 1, 7) + x.factor(0, 7, 7) + (x.same(0, 1) ? 1 : 0);
      all += x.ways(round % 4, 3000) + (x.of(3, 3000, 100) ? 1 : 0) + x.rank() + x.apart(3, 3000);
      all += x.stamps(3, 50) + x.best(4, 4, 6) + x.pays(0, 15_000) + x.holes(1) + x.change(0, 1, 5000);
      all += x.deal(0, 1, 10 + round) + (x.undo() ? 1 : 0);
    }
    return all;
  }

  public static void main(String[] args) {
    dearCalls(new MintHouse());
    long before = allocated();
    MintHouse x = new MintHouse();
    long made = allocated();
    long all = dearCalls(x);
    long after = allocated();
    boolean fits = made - before <= MOST_FOR_OBJECT && after - made <= MOST_FOR_CALLS;
    System.out.println("the object takes " + (made - before) + " bytes, its calls " + (after - made) + " more"
        + (fits ? "" : ": too many") + " (" + all + ")");
    if (!fits) {
      System.exit(1);
    }
  }
}
