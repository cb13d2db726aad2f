import java.lang.management.ManagementFactory;
import java.util.Random;

/** No call makes an object: what the calls of long runs take from the heap is next to nothing. */
public final class RoomTest {
  private static final int RUNS = 200;
  private static final int CALLS = 512;
  private static final com.sun.management.ThreadMXBean threads =
      (com.sun.management.ThreadMXBean) ManagementFactory.getThreadMXBean();

  public static void main(String[] args) {
    WreathOrbits[] objects = new WreathOrbits[RUNS];
    for (int i = 0; i < RUNS; i++) objects[i] = new WreathOrbits();
    String[] names = new String[CALLS];
    int[][] arguments = new int[CALLS][];
    Random r = new Random(7);
    for (int i = 0; i < CALLS; i++) {
      int call = i % Calls.NAMES;
      names[i] = Calls.name(call);
      arguments[i] = Calls.draw(call, r);
    }
    // The first runs also load classes, which takes room of its own.
    long taken = Long.MAX_VALUE;
    for (WreathOrbits x : objects) taken = Math.min(taken, takenBy(x, names, arguments));
    Due due = new Due("RoomTest");
    due.is("bytes taken by " + CALLS + " calls, beyond 256", (int) Math.max(0, taken - 256), 0);
    due.end();
  }

  private static long takenBy(WreathOrbits x, String[] names, int[][] arguments) {
    long id = Thread.currentThread().getId();
    long before = threads.getThreadAllocatedBytes(id);
    for (int i = 0; i < CALLS; i++) Calls.make(x, names[i], arguments[i]);
    return threads.getThreadAllocatedBytes(id) - before;
  }
}
