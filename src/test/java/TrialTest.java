/** Promises 48 to 52: the trials, which change nothing. */
public final class TrialTest {
  private static final Class<IndexOutOfBoundsException> NO_INDEX = IndexOutOfBoundsException.class;
  private static final Class<IllegalArgumentException> NO_VALUE = IllegalArgumentException.class;

  public static void main(String[] args) {
    misprintsIn();
    ticksUntilDone();
    bestCorrection();
    bestRate();
    bestRateAtTheEdges();
    bestNudge();
    nothingChanges();
    wrongInputs();
    Due.end("TrialTest");
  }

  private static void misprintsIn() {
    // One position ahead: the prints at 5, 11, 13 and 21 are all wrong.
    TypeWheelTelegraph x = Sample.sending(Sample.IN_STEP.replace("office 5500", "office 500"));
    Due.equal("misprintsIn(4)", x.misprintsIn(4), 0);
    Due.equal("misprintsIn(5)", x.misprintsIn(5), 1);
    Due.equal("misprintsIn(12)", x.misprintsIn(12), 2);
    Due.equal("misprintsIn(13)", x.misprintsIn(13), 3);
    x.run(11);
    Due.equal("misprintsIn(1)", x.misprintsIn(1), 0);
    Due.equal("misprintsIn(2)", x.misprintsIn(2), 1);
    TypeWheelTelegraph y =
        Sample.of("wheel 6;office 500 500;office 0 500;message 1 ad;");
    y.start(1);
    Due.equal("misprintsIn(13) of office 0", y.misprintsIn(13), 3);
    Due.equal("misprintsIn(2000) without a sender", new TypeWheelTelegraph().misprintsIn(2000), 0);
  }

  private static void ticksUntilDone() {
    TypeWheelTelegraph x = Sample.of(Sample.IN_STEP);
    Due.equal("ticksUntilDone(1) without a sender", x.ticksUntilDone(1), 0);
    x.start(0);
    Due.equal("ticksUntilDone(45)", x.ticksUntilDone(45), -1);
    Due.equal("ticksUntilDone(46)", x.ticksUntilDone(46), 46);
    Due.equal("ticksUntilDone(5000)", x.ticksUntilDone(5000), 46);
    x.run(40);
    Due.equal("ticksUntilDone(5)", x.ticksUntilDone(5), -1);
    Due.equal("ticksUntilDone(6)", x.ticksUntilDone(6), 6);
    x.breakIn();
    Due.equal("ticksUntilDone(6)", x.ticksUntilDone(6), 1);
  }

  private static void bestCorrection() {
    // Office 1 gains 10 a tick; uncorrected it is 500 ahead at the print at 31.
    TypeWheelTelegraph x = Sample.sending(Sample.IN_STEP.replace("5500 500", "5690 510"));
    Due.equal("bestCorrection(30)", x.bestCorrection(30), 0);
    Due.equal("bestCorrection(31)", x.bestCorrection(31), 25);
    Due.equal("bestCorrection(50)", x.bestCorrection(50), 25);
    Due.equal("setCorrection(0)", x.setCorrection(0), 100);
    Due.equal("misprintsIn(50)", x.misprintsIn(50), 3);
    x.setCorrection(24);
    Due.equal("misprintsIn(50)", x.misprintsIn(50), 0);
    // Office 1 gains 492 from print to print; less than 500 leaves too much at the third.
    String fast = "wheel 6;office 0 500;office 5295 541;message 0 aaa;";
    Due.equal("bestCorrection(28)", Sample.sending(fast).bestCorrection(28), 0);
    Due.equal("bestCorrection(29)", Sample.sending(fast).bestCorrection(29), 500);
    Due.equal("bestCorrection(1)", new TypeWheelTelegraph().bestCorrection(1), 0);
  }

  private static void bestRate() {
    TypeWheelTelegraph x = Sample.sending(Sample.IN_STEP.replace("5500 500", "5500 503"));
    Due.equal("bestRate(1, 50)", x.bestRate(1, 50), 500);
    Due.equal("bestRate(1, 4) without a print", x.bestRate(1, 4), 498);
    x.setRate(1, 506);
    Due.equal("bestRate(1, 50)", x.bestRate(1, 50), 501);
    x.setRate(1, 494);
    Due.equal("bestRate(1, 50)", x.bestRate(1, 50), 499);
    x.setRate(1, 500);
    Due.equal("bestRate(1, 50)", x.bestRate(1, 50), 500);
    // A slower sender sends a tick later; a faster one, up to some rate, at the same ticks.
    Due.equal("bestRate(0, 50)", x.bestRate(0, 50), 500);
    // Greater offsets of earlier prints do not count.
    x.nudge(1, 400);
    x.run(5);
    Due.equal("worstOffset(1)", x.worstOffset(1), 400);
    x.nudge(1, -300);
    Due.equal("bestRate(1, 6)", x.bestRate(1, 6), 500);
    TypeWheelTelegraph y = Sample.of("wheel 6;office 5900 500;office 0 500;message 1 ad;");
    y.start(1);
    y.run(5);
    Due.equal("worstOffset(0)", y.worstOffset(0), 400);
    y.nudge(0, -200);
    Due.equal("bestRate(0, 6)", y.bestRate(0, 6), 500);
    TypeWheelTelegraph z = Sample.sending(Sample.IN_STEP);
    z.run(4);
    Due.equal("bestRate(1, 1): 499 is behind by 1", z.bestRate(1, 1), 500);
  }

  private static void bestRateAtTheEdges() {
    TypeWheelTelegraph x = Sample.of("office 0 10;office 0 999;");
    Due.equal("bestRate(0, 1)", x.bestRate(0, 1), 10);
    Due.equal("bestRate(1, 1000)", x.bestRate(1, 1000), 994);
    x.setRate(0, 14);
    Due.equal("bestRate(0, 1)", x.bestRate(0, 1), 10);
    x.setRate(0, 16);
    Due.equal("bestRate(0, 1)", x.bestRate(0, 1), 11);
    // The highest rate is tried: 5 behind at 5 ticks, and 998 would be 10 behind.
    String text = "wheel 6;office 0 500;office 3000 995;correct 0;message 0 a;";
    TypeWheelTelegraph fast = Sample.sending(text);
    Due.equal("bestRate(1, 5)", fast.bestRate(1, 5), 999);
    // And the lowest one: 49 ahead at 5 ticks.
    text = "wheel 6;office 0 500;office 2000 13;correct 0;message 0 a;";
    TypeWheelTelegraph slow = Sample.sending(text);
    slow.nudge(1, -1);
    Due.equal("bestRate(1, 5)", slow.bestRate(1, 5), 10);
  }

  private static void bestNudge() {
    nudge("office 5500 500;", 1, 50, 0);
    // 600 ahead, 500 ahead is still too much; 600 behind, 500 behind is not.
    nudge("office 100 500;", 1, 50, -200);
    nudge("office 4900 500;", 1, 50, 100);
    nudge("office 999 500;", 1, 50, 0);
    nudge("office 0 500;", 1, 5, -100);
    nudge("office 0 500;", 1, 4, 0);
    // 650 ahead at the first print, 646 behind at the second: 200 either way mends one of them.
    String drifting = "wheel 6;office 0 500;office 690 392;correct 0;message 0 aa;";
    TypeWheelTelegraph x = Sample.sending(drifting);
    Due.equal("misprintsIn(17)", x.misprintsIn(17), 2);
    Due.equal("bestNudge(1, 17)", x.bestNudge(1, 17), -200);
    Due.equal("bestNudge(0, 18): a tick later", x.bestNudge(0, 18), -100);
    Due.equal("bestNudge(0, 1)", x.bestNudge(0, 1), 0);
    // 999 ahead: only 500 back mend it; 1000 behind: only 500 forward.
    nudge("office 499 500;correct 0;", 1, 5, -500);
    nudge("office 4500 500;correct 0;", 1, 5, 500);
    // 699 ahead and 597 behind: 100 mends the second, as 200 back mends the first.
    TypeWheelTelegraph y = Sample.sending(drifting.replace("690", "739"));
    Due.equal("bestNudge(1, 17)", y.bestNudge(1, 17), 100);
  }

  private static void nudge(String office, int nudged, int ticks, int best) {
    TypeWheelTelegraph x = Sample.sending(Sample.IN_STEP.replace("office 5500 500;", office));
    Due.equal("bestNudge of " + office + ticks, x.bestNudge(nudged, ticks), best);
  }

  private static void nothingChanges() {
    TypeWheelTelegraph x = Sample.sending(Sample.IN_STEP.replace("5500 500", "5690 510"));
    x.run(12);
    x.breakIn();
    String before = Calls.watch(x);
    x.misprintsIn(2000);
    x.ticksUntilDone(5000);
    x.bestCorrection(1000);
    x.bestRate(0, 1000);
    x.bestNudge(1, 1000);
    Due.equal("the state after trials", Calls.watch(x), before);
    Due.equal("undo(): trials are not recorded", x.undo(), 2);
    Due.equal("underWay()", x.underWay(), 1);
  }

  private static void wrongInputs() {
    TypeWheelTelegraph x = Sample.sending(Sample.IN_STEP);
    for (int ticks : new int[] {0, -1, Integer.MIN_VALUE, 5001, Integer.MAX_VALUE}) {
      Due.thrown("misprintsIn", NO_VALUE, x, () -> x.misprintsIn(ticks));
      Due.thrown("ticksUntilDone", NO_VALUE, x, () -> x.ticksUntilDone(ticks));
      Due.thrown("bestCorrection", NO_VALUE, x, () -> x.bestCorrection(ticks));
      Due.thrown("bestRate", NO_VALUE, x, () -> x.bestRate(0, ticks));
      Due.thrown("bestNudge", NO_VALUE, x, () -> x.bestNudge(1, ticks));
      Due.thrown("bestRate: the office first", NO_INDEX, x, () -> x.bestRate(2, ticks));
      Due.thrown("bestNudge: the office first", NO_INDEX, x, () -> x.bestNudge(-1, ticks));
    }
    Due.thrown("misprintsIn(2001)", NO_VALUE, x, () -> x.misprintsIn(2001));
    Due.thrown("bestCorrection(1001)", NO_VALUE, x, () -> x.bestCorrection(1001));
    Due.thrown("bestRate(0, 1001)", NO_VALUE, x, () -> x.bestRate(0, 1001));
    Due.thrown("bestNudge(0, 1001)", NO_VALUE, x, () -> x.bestNudge(0, 1001));
    Due.thrown("bestRate(2, 1)", NO_INDEX, x, () -> x.bestRate(2, 1));
    Due.thrown("bestNudge(2, 1)", NO_INDEX, x, () -> x.bestNudge(2, 1));
    Due.equal("misprintsIn(1)", x.misprintsIn(1), 0);
    Due.equal("ticksUntilDone(1)", x.ticksUntilDone(1), -1);
  }
}
