/** Promises 31 to 38: the statistics, and the section EVENTS. */
public final class StatisticsTest {
  private static final Class<IndexOutOfBoundsException> NO_INDEX = IndexOutOfBoundsException.class;

  public static void main(String[] args) {
    counts();
    offsets();
    worstIsKept();
    wrongOffices();
    event();
    latestForty();
    Due.end("StatisticsTest");
  }

  private static void counts() {
    // One position ahead: all that office 1 prints is wrong.
    TypeWheelTelegraph x =
        Sample.sending(Sample.IN_STEP.replace("office 5500", "office 500") + "lose 2;lose 9;");
    x.run(4);
    counted(x, "1 0 0 0 0 0");
    x.run(1);
    counted(x, "1 0 0 1 0 1");
    x.run(7);
    counted(x, "3 1 0 1 0 1");
    x.run(1);
    counted(x, "3 1 0 2 0 2");
    x.run(8);
    counted(x, "4 1 0 3 0 3");
    x.nudge(1, -1000);
    x.run(300);
    Due.equal("misprints(1) in step again", x.misprints(1), 3);
    Due.equal("lostPulses()", x.lostPulses(), 2);
    Due.equal("prints(1)", x.prints(1), x.pulses() - 2);
    Due.equal("sender()", x.sender(), -1);
  }

  private static void counted(TypeWheelTelegraph x, String counts) {
    StringBuilder seen = new StringBuilder();
    seen.append(x.pulses()).append(' ').append(x.lostPulses()).append(' ');
    seen.append(x.prints(0)).append(' ').append(x.prints(1)).append(' ');
    seen.append(x.misprints(0)).append(' ').append(x.misprints(1));
    Due.equal("the counts at " + x.time(), seen, counts);
  }

  private static void offsets() {
    TypeWheelTelegraph x = Sample.sending(Sample.IN_STEP.replace("office 5500", "office 5620"));
    Due.equal("worstOffset(1)", x.worstOffset(1), 0);
    Due.equal("meanOffset(1)", x.meanOffset(1), 0.0);
    x.run(5);
    Due.equal("worstOffset(1) by 120", x.worstOffset(1), 120);
    Due.equal("meanOffset(1) by 120", x.meanOffset(1), 120.0);
    x.run(6);
    Due.equal("meanOffset(1) by 120 20", x.meanOffset(1), 70.0);
    x.run(2);
    Due.equal("worstOffset(1) by 120 20 0", x.worstOffset(1), 120);
    Due.equal("meanOffset(1) by 120 20 0", x.meanOffset(1), 140.0 / 3.0);
    Due.equal("worstOffset(0)", x.worstOffset(0), 0);
    Due.equal("meanOffset(0)", x.meanOffset(0), 0.0);
    x.nudge(1, -50);
    x.run(8);
    Due.equal("meanOffset(1) by 120 20 0 -50", x.meanOffset(1), 22.5);
  }

  private static void worstIsKept() {
    TypeWheelTelegraph x = Sample.sending(Sample.IN_STEP.replace("office 5500", "office 5200"));
    x.run(5);
    Due.equal("worstOffset(1) by -300", x.worstOffset(1), 300);
    Due.equal("meanOffset(1) by -300", x.meanOffset(1), -300.0);
    x.nudge(1, 499);
    x.run(6);
    Due.equal("worstOffset(1) by -300 299", x.worstOffset(1), 300);
    Due.equal("meanOffset(1) by -300 299", x.meanOffset(1), -0.5);
  }

  private static void wrongOffices() {
    TypeWheelTelegraph x = Sample.sending(Sample.IN_STEP);
    for (int office : new int[] {-1, 2, 1000}) {
      Due.thrown("prints", NO_INDEX, x, () -> x.prints(office));
      Due.thrown("misprints", NO_INDEX, x, () -> x.misprints(office));
      Due.thrown("worstOffset", NO_INDEX, x, () -> x.worstOffset(office));
      Due.thrown("meanOffset", NO_INDEX, x, () -> x.meanOffset(office));
    }
  }

  private static void event() {
    TypeWheelTelegraph x = Sample.sending(Sample.IN_STEP);
    Due.equal("eventCount()", x.eventCount(), 0);
    Due.thrown("event(0, 0)", NO_INDEX, x, () -> x.event(0, 0));
    x.run(21);
    Due.equal("eventCount()", x.eventCount(), 1);
    Due.equal("event(0, 0)", x.event(0, 0), 21);
    Due.equal("event(0, 1)", x.event(0, 1), 1);
    Due.equal("event(0, 2)", x.event(0, 2), 2);
    Due.thrown("event(1, 0)", NO_INDEX, x, () -> x.event(1, 0));
    Due.thrown("event(-1, 0)", NO_INDEX, x, () -> x.event(-1, 0));
    Due.thrown("event(0, 3)", IllegalArgumentException.class, x, () -> x.event(0, 3));
    Due.thrown("event(0, -1)", IllegalArgumentException.class, x, () -> x.event(0, -1));
    Due.thrown("event(1, 3): the index first", NO_INDEX, x, () -> x.event(1, 3));
  }

  private static void latestForty() {
    TypeWheelTelegraph x = Sample.of(Sample.IN_STEP);
    for (int i = 1; i <= 133; i++) {
      x.start(0);
      x.breakIn();
      x.run(1);
      int kept = Math.min(i, 40);
      Due.equal("eventCount()", x.eventCount(), kept);
      Due.equal("event(0, 0): the oldest that is kept", x.event(0, 0), i - kept + 1);
      Due.equal("event: the latest", x.event(kept - 1, 0), i);
    }
    Due.thrown("event(40, 0)", NO_INDEX, x, () -> x.event(40, 0));
    x.undo();
    Due.equal("event(0, 0) after undo()", x.event(0, 0), 93);
  }
}
