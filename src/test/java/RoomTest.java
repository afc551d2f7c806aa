import com.sun.management.ThreadMXBean;
import java.lang.management.ManagementFactory;

/** The dearest calls make nothing anew, and one object fits the room well. */
public final class RoomTest {
  private static final ThreadMXBean THREADS =
      (ThreadMXBean) ManagementFactory.getThreadMXBean();

  public static void main(String[] args) {
    TypeWheelTelegraph x = busy();
    dearestCalls(x, 20);
    long before = THREADS.getCurrentThreadAllocatedBytes();
    dearestCalls(x, 120);
    long made = THREADS.getCurrentThreadAllocatedBytes() - before;
    Due.equal("480 dear calls make at most 100000 bytes (" + made + ")", made <= 100000, true);

    before = THREADS.getCurrentThreadAllocatedBytes();
    x = new TypeWheelTelegraph();
    made = THREADS.getCurrentThreadAllocatedBytes() - before;
    // 7.3 million elements of 4 bytes are the whole room; one object takes a small part.
    Due.equal("an object takes at most 1000000 bytes (" + made + ")", made <= 1000000, true);
    Due.equal("its time", x.time(), 0);
    Due.end("RoomTest");
  }

  private static TypeWheelTelegraph busy() {
    TypeWheelTelegraph x = new TypeWheelTelegraph();
    String text = "wheel 6; office 0 900; office 5100 899; guard 9; message 0 abcd 0123 / abcd;";
    Calls.put(x, text);
    x.load();
    x.start(0);
    return x;
  }

  private static void dearestCalls(TypeWheelTelegraph x, int times) {
    for (int i = 0; i < times; i++) {
      x.bestCorrection(200);
      x.bestRate(1, 200);
      x.bestNudge(1, 200);
      x.run(2);
    }
  }
}
