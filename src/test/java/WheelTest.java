/** Promises 6 to 19: the wheels, and the lines with their pulses. */
public final class WheelTest {
  public static void main(String[] args) {
    positionsAndTime();
    phaseAndRate();
    facing();
    character();
    lead();
    lineCounts();
    sequences();
    noSuchLine();
    ticksFor();
    slowestLine();
    Due.end("WheelTest");
  }

  private static void positionsAndTime() {
    TypeWheelTelegraph x = Sample.of("wheel 17;");
    Due.equal("positions()", x.positions(), 17);
    Due.equal("time()", x.time(), 0);
    x.run(3);
    x.run(4);
    Due.equal("time()", x.time(), 7);
    x.nudge(0, 99);
    Due.equal("time()", x.time(), 7);
  }

  private static void phaseAndRate() {
    TypeWheelTelegraph x = Sample.of("wheel 6;office 5950 20;office 7 999;");
    Due.equal("phase(0)", x.phase(0), 5950);
    Due.equal("rate(0)", x.rate(0), 20);
    x.run(3);
    Due.equal("phase(0) beyond the circle", x.phase(0), 10);
    Due.equal("phase(1)", x.phase(1), 3004);
    Due.equal("rate(1)", x.rate(1), 999);
    x.run(3);
    Due.equal("phase(1) beyond the circle", x.phase(1), 1);
    for (int office : new int[] {-1, 2, Integer.MAX_VALUE, Integer.MIN_VALUE}) {
      Due.thrown("phase", IndexOutOfBoundsException.class, x, () -> x.phase(office));
      Due.thrown("rate", IndexOutOfBoundsException.class, x, () -> x.rate(office));
      Due.thrown("facing", IndexOutOfBoundsException.class, x, () -> x.facing(office));
    }
  }

  private static void facing() {
    int[] phases = {0, 499, 500, 1499, 1500, 5499, 5500, 5999};
    int[] faced = {0, 0, 1, 1, 2, 5, 0, 0};
    for (int i = 0; i < phases.length; i++) {
      TypeWheelTelegraph x = Sample.of("wheel 6;office 3000 10;office " + phases[i] + " 10;");
      Due.equal("facing(1) at " + phases[i], x.facing(1), faced[i]);
      Due.equal("facing(0)", x.facing(0), 3);
    }
  }

  private static void character() {
    TypeWheelTelegraph x = new TypeWheelTelegraph();
    StringBuilder letters = new StringBuilder();
    StringBuilder figures = new StringBuilder();
    for (int position = 2; position < 28; position++) {
      letters.append(x.character(position, false));
      figures.append(x.character(position, true));
    }
    Due.equal("the letters", letters, "abcdefghijklmnopqrstuvwxyz");
    Due.equal("the figures", figures, "0123456789.,:;?!+-=()*'\"_@");
    Class<IndexOutOfBoundsException> type = IndexOutOfBoundsException.class;
    Due.thrown("character(28, ..)", type, x, () -> x.character(28, true));
    Due.thrown("character(1, ..)", type, x, () -> x.character(1, false));
    Due.thrown("character(-1, ..)", type, x, () -> x.character(-1, false));
    TypeWheelTelegraph small = Sample.of("wheel 6;");
    Due.equal("character(5, false)", small.character(5, false), 'd');
    Due.thrown("character(6, ..)", type, small, () -> small.character(6, false));
  }

  private static void lead() {
    leadOf("wheel 6;office 0 10;office 2899 100;", 2999);
    leadOf("wheel 6;office 0 10;office 2900 100;", -3000);
    leadOf("wheel 6;office 5999 10;office 0 100;delay 2;", 201);
    leadOf("wheel 6;office 0 10;office 5999 999;delay 50;", 1949);
    leadOf("office 14000 10;office 0 10;", -13990);
    TypeWheelTelegraph x = Sample.of("office 50 10;office 70 10;message 1 a;delay 3;");
    Due.equal("lead()", x.lead(), 50);
    x.start(1);
    Due.equal("lead() while office 1 sends", x.lead(), 50);
  }

  private static void leadOf(String text, int lead) {
    Due.equal("lead() of " + text, Sample.of(text).lead(), lead);
  }

  private static void lineCounts() {
    TypeWheelTelegraph x = Sample.of("message 1 a/bc//d4e;message 0 77;");
    Due.equal("lineCount(0)", x.lineCount(0), 1);
    Due.equal("lineCount(1)", x.lineCount(1), 4);
    Due.equal("lineLength(1, 1)", x.lineLength(1, 1), 2);
    Due.equal("lineLength(1, 2)", x.lineLength(1, 2), 0);
    Due.equal("lineLength(1, 3)", x.lineLength(1, 3), 3);
    Due.equal("linesDone(1)", x.linesDone(1), 0);
    TypeWheelTelegraph y = Sample.sending(Sample.IN_STEP);
    y.run(21);
    Due.equal("linesDone(0)", y.linesDone(0), 0);
    y.run(1);
    Due.equal("linesDone(0)", y.linesDone(0), 1);
    y.run(24);
    Due.equal("linesDone(0)", y.linesDone(0), 2);
    Due.equal("linesDone(1)", y.linesDone(1), 0);
  }

  private static void sequences() {
    TypeWheelTelegraph x = Sample.of("message 0 ad1b/12//" + "0a".repeat(15) + "/z9;");
    Due.equal("pulses of ad1b", Sample.pulses(x, 0, 0), "2 5 1 3 0 3 0 8");
    Due.equal("pulses of 12", Sample.pulses(x, 0, 1), "1 3 4 1 5");
    Due.equal("pulses of the empty line", Sample.pulses(x, 0, 2), "0 2");
    Due.equal("pulsesOf the longest", x.pulsesOf(0, 3), 62);
    Due.equal("pulses of the longest", Sample.pulses(x, 0, 3), "1 2 0 2 ".repeat(15) + "0 10");
    Due.equal("pulses of z9", Sample.pulses(x, 0, 4), "27 1 11 1 5");
    TypeWheelTelegraph small = Sample.of("wheel 6;message 1 abcd/abc/3210a;");
    Due.equal("pulses of abcd", Sample.pulses(small, 1, 0), "2 3 4 5 0 2");
    Due.equal("pulses of abc", Sample.pulses(small, 1, 1), "2 3 4 0 5");
    Due.equal("pulses of 3210a", Sample.pulses(small, 1, 2), "1 5 4 3 2 0 2 0 5");
  }

  private static void noSuchLine() {
    TypeWheelTelegraph x = Sample.of("message 0 a/b;message 1 c;");
    Class<IndexOutOfBoundsException> type = IndexOutOfBoundsException.class;
    int[][] wrong = {{0, 2}, {0, -1}, {1, 1}, {2, 0}, {-1, 0}, {0, Integer.MAX_VALUE}};
    for (int[] pair : wrong) {
      Due.thrown("lineLength", type, x, () -> x.lineLength(pair[0], pair[1]));
      Due.thrown("pulsesOf", type, x, () -> x.pulsesOf(pair[0], pair[1]));
      Due.thrown("pulseOf", type, x, () -> x.pulseOf(pair[0], pair[1], 0));
      Due.thrown("ticksFor", type, x, () -> x.ticksFor(pair[0], pair[1]));
    }
    Due.thrown("pulseOf(0, 0, 3)", type, x, () -> x.pulseOf(0, 0, 3));
    Due.thrown("pulseOf(0, 0, -1)", type, x, () -> x.pulseOf(0, 0, -1));
    for (int office : new int[] {-1, 2}) {
      Due.thrown("lineCount", type, x, () -> x.lineCount(office));
      Due.thrown("linesDone", type, x, () -> x.linesDone(office));
      Due.thrown("slowestLine", type, x, () -> x.slowestLine(office));
    }
  }

  private static void ticksFor() {
    // The line a is sent by 2 0 3: 20 ticks, 260 more to the next circle, 30 more.
    TypeWheelTelegraph x = Sample.of("office 0 100;office 0 300;message 0 a/;message 1 a;");
    Due.equal("ticksFor(0, 0)", x.ticksFor(0, 0), 310);
    Due.equal("ticksFor(0, 1) of 0 2", x.ticksFor(0, 1), 300);
    Due.equal("ticksFor(1, 0) by 2100, 200, 3200", x.ticksFor(1, 0), 104);
    x.nudge(0, 1900);
    Due.equal("ticksFor(0, 0) just before", x.ticksFor(0, 0), 291);
    x.nudge(0, 100);
    Due.equal("ticksFor(0, 0) at the position", x.ticksFor(0, 0), 570);
    x.nudge(0, 1);
    Due.equal("ticksFor(0, 0) past the position", x.ticksFor(0, 0), 570);
    TypeWheelTelegraph y = Sample.sending(Sample.IN_STEP);
    int due = y.ticksFor(0, 0);
    Due.equal("ticksFor(0, 0)", due, 20);
    y.run(due - 1);
    Due.equal("isWaiting()", y.isWaiting(), false);
    y.run(1);
    Due.equal("isWaiting()", y.isWaiting(), true);
    Due.equal("ticksFor(0, 0) of a line that is sent", y.ticksFor(0, 0), 24);
    TypeWheelTelegraph fast = Sample.of("wheel 6;office 0 999;message 0 aaa;");
    // 2997, 8991, 14985 for the three a, then 18981 for 0 and 23976 for 5.
    Due.equal("ticksFor(0, 0) by the rate 999", fast.ticksFor(0, 0), 24);
  }

  private static void slowestLine() {
    TypeWheelTelegraph x = Sample.of("message 0 a/ba/b/ba/ab;");
    Due.equal("slowestLine(0)", x.slowestLine(0), 1);
    Due.equal("slowestLine(1)", x.slowestLine(1), -1);
    Due.equal("ticksFor(0, 3)", x.ticksFor(0, 3), x.ticksFor(0, 1));
    TypeWheelTelegraph y = Sample.of("message 1 c/b/a;");
    Due.equal("slowestLine(1) of three equal ones", y.slowestLine(1), 0);
    y.nudge(1, 2000);
    Due.equal("slowestLine(1) at the position of a", y.slowestLine(1), 2);
    y.nudge(1, 1000);
    Due.equal("slowestLine(1) at the position of b", y.slowestLine(1), 1);
  }
}
