import com.sun.management.ThreadMXBean;
import java.lang.management.ManagementFactory;

/** The room that all calls of a run share: an object is small, and its calls make nothing. */
public final class RoomTest {
  private static final ThreadMXBean THREADS = (ThreadMXBean) ManagementFactory.getThreadMXBean();
  private static final String FULL = "quay 999;gap 1;crane 0 999;crane 0 999;crane 0 999;crane 0 999;tide 0 5;tide 12 40;"
      + "tide 24 3;tide 36 40;ship a 90 99 99 999 0 9 0 1 8;ship b 80 99 99 999 0 9 0 1 8;ship c 70 99 99 999 0 9 0 1 8;"
      + "ship d 99 99 99 999 0 9 0 1 8;ship e 90 99 99 999 0 9 0 1 8;ship f 90 99 99 999 0 9 0 1 8;"
      + "ship g 90 99 99 999 0 9 0 1 8;ship h 90 300 99 999 0 9 0 1 8;";

  public static void main(String[] args) {
    run(FULL);
    run(FULL);
    long before = made();
    QuayBerths quay = new QuayBerths();
    long object = made() - before;
    int[][] fed = fed(FULL);
    before = made();
    for (int[] five : fed) quay.feed(five[0], five[1], five[2], five[3], five[4]);
    quay.text(FULL.length());
    calls(quay);
    long calls = made() - before;
    Check check = new Check();
    check.due("an object has at most 40,000 bytes, not " + object, object <= 40000, true);
    check.due("its calls make at most 1,000 bytes, not " + calls, calls <= 1000, true);
    check.end();
  }

  private static long made() {
    return THREADS.getThreadAllocatedBytes(Thread.currentThread().getId());
  }

  private static int[][] fed(String text) {
    int[][] all = new int[(text.length() + 19) / 20][];
    for (int i = 0; i < all.length; i++) all[i] = Check.words(text, 20 * i);
    return all;
  }

  private static void run(String text) {
    calls(Check.told(text));
    made();
  }

  private static int calls(QuayBerths quay) {
    int sum = 0;
    for (int i = 0; i < 16; i++) {
      sum += quay.best(i % 6) + quay.hopeless() + quay.itself(i % 8) + quay.all(i % 4) + quay.four() + quay.squeeze();
      sum += quay.swap(i % 8, (i + 3) % 8) + quay.move(i % 8, 1, 1) + quay.slack(i % 8) + quay.along(i % 8, i % 2);
      sum += quay.places(i % 8, i, 2, -1) + quay.earliest(i % 8, 3, 0) + quay.hours(0) + quay.without(1) + quay.write();
      sum += quay.mark(i % 4) + quay.differs(i % 4) + quay.undo() + quay.back(i % 4) + quay.busiest(0) + quay.leaver(2);
      sum += quay.order(i % 4, 3) + quay.shut(120, 0) + quay.lies(i, 0) + quay.free(i, 0) + (quay.away(i % 8) ? 1 : 0);
    }
    return sum;
  }
}
