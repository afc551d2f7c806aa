/** The boundaries of the wheels, the lines and the pulses, and of promises 6 to 19. */
public final class WheelBoundaryTest {
  private static final Class<?> NO_INDEX = IndexOutOfBoundsException.class;
  private static final int[] FAR = {Integer.MIN_VALUE, -1, Integer.MAX_VALUE};

  public static void main(String[] args) {
    positions();
    shiftsAndCharacters();
    phases();
    observers();
    facing();
    character();
    lead();
    letterShiftFirst();
    shiftsWithinLine();
    endSignalAndCheck();
    numberedPulses();
    lostPulse();
    lineCount();
    linesDone();
    lineLength();
    pulsesOf();
    pulseOf();
    ticksFor();
    slowestLine();
    Due.end("WheelBoundaryTest");
  }

  private static void positions() {
    Due.sentence("WHEELS AND CHARACTERS", "Each wheel has the positions 0 to N - 1.");
    for (int n = 6; n <= 28; n++) {
      TypeWheelTelegraph x = Sample.of("wheel " + n + ";office 0 10;office 499 10;");
      Due.equal("positions()", x.positions(), n);
      for (int p = 0; p < n; p++) {
        Due.equal("facing(0)", x.facing(0), p);
        Due.equal("facing(1)", x.facing(1), p);
        x.nudge(0, 1000);
        x.nudge(1, 1000);
      }
      Due.equal("facing(0) after a circle", x.facing(0), 0);
      Due.equal("facing(1) after a circle", x.facing(1), 0);
    }
  }

  private static void shiftsAndCharacters() {
    Due.sentence(
        "WHEELS AND CHARACTERS",
        "Position 0 is the letter shift, position 1 the figure shift. Position p from 2 on has the"
            + " letter with the index p - 2 (a is 0) and the figure with the index p - 2 in"
            + " 0123456789.,:;?!+-=()*'\"_@ (26 characters).");
    String figures = "0123456789.,:;?!+-=()*'\"_@";
    TypeWheelTelegraph x = new TypeWheelTelegraph();
    for (int p = 2; p <= 27; p++) {
      Due.equal("character(" + p + ", false)", x.character(p, false), (char) ('a' + p - 2));
      Due.equal("character(" + p + ", true)", x.character(p, true), figures.charAt(p - 2));
    }
    Due.equal("pulses of z9", Sample.pulses(Sample.of("message 0 z9;"), 0, 0), "27 1 11 1 5");
  }

  private static void phases() {
    Due.sentence(
        "WHEELS AND CHARACTERS",
        "The phase of a wheel is measured in thousandths of a position, from 0 to 1000 * N - 1. In"
            + " each tick it increases by the rate of the office, modulo 1000 * N.");
    for (int n = 6; n <= 28; n++) {
      for (int rate : new int[] {10, 11, 500, 998, 999}) {
        int behind = 1000 * n - rate;
        afterTick(n, behind - 1, rate, 1000 * n - 1);
        afterTick(n, behind, rate, 0);
        afterTick(n, behind + 1, rate, 1);
        afterTick(n, 0, rate, rate);
        afterTick(n, 1000 * n - 1, rate, rate - 1);
      }
    }
  }

  private static void afterTick(int n, int phase, int rate, int due) {
    String office = "office " + phase + " " + rate + ";";
    TypeWheelTelegraph x = Sample.of("wheel " + n + ";" + office + office);
    Due.equal("phase(0)", x.phase(0), phase);
    x.run(1);
    Due.equal("phase(0) after a tick from " + office, x.phase(0), due);
    Due.equal("phase(1) after a tick from " + office, x.phase(1), due);
  }

  private static void observers() {
    Due.sentence("Promise 6", "Returns the number of positions of the wheels.");
    Due.equal("positions() at least", Sample.of("wheel 6;").positions(), 6);
    Due.equal("positions() at most", Sample.of("wheel 28;").positions(), 28);
    Due.equal("positions() of a new object", new TypeWheelTelegraph().positions(), 28);
    Due.sentence("Promise 7", "Returns the time.");
    TypeWheelTelegraph x = Sample.of("wheel 6;office 0 10;office 5999 999;");
    Due.equal("time()", x.time(), 0);
    Due.sentence("Promise 8", "Returns the phase of an office's wheel.");
    Due.equal("phase(0)", x.phase(0), 0);
    Due.equal("phase(1)", x.phase(1), 5999);
    Due.sentence("Promise 9", "Returns the rate of an office.");
    Due.equal("rate(0)", x.rate(0), 10);
    Due.equal("rate(1)", x.rate(1), 999);
    Sample.pass(x, 100000);
    Due.sentence("Promise 7", "Returns the time.");
    Due.equal("time() at most", x.time(), 100000);
    Due.sentence("Promise 8", "Returns the phase of an office's wheel.");
    Due.equal("phase(0) after 1000000", x.phase(0), 4000);
    Due.equal("phase(1) after 99900000", x.phase(1), 5999);
  }

  private static void facing() {
    Due.sentence(
        "Promise 10",
        "Returns the position that an office would print now: ((phase + 500) / 1000) modulo the"
            + " number of positions.");
    for (int n = 6; n <= 28; n++) {
      faces(n, 0, 0);
      faces(n, 499, 0);
      faces(n, 500, 1);
      faces(n, 1499, 1);
      faces(n, 1500, 2);
      faces(n, 1000 * n - 501, n - 1);
      faces(n, 1000 * n - 500, 0);
      faces(n, 1000 * n - 1, 0);
    }
  }

  private static void faces(int n, int phase, int due) {
    TypeWheelTelegraph x =
        Sample.of("wheel " + n + ";office " + phase + " 10;office " + phase + " 10;");
    Due.equal("facing(0) at " + phase, x.facing(0), due);
    Due.equal("facing(1) at " + phase, x.facing(1), due);
  }

  private static void character() {
    Due.sentence("Promise 11", "- `position`: 2 to the number of positions minus 1");
    for (int n = 6; n <= 28; n++) {
      String text = "wheel " + n + ";";
      TypeWheelTelegraph x = Sample.of(text);
      Due.equal("character(2, false)", x.character(2, false), 'a');
      Due.equal("character(2, true)", x.character(2, true), '0');
      Due.equal("the last letter", x.character(n - 1, false), (char) ('a' + n - 3));
      for (int wrong : new int[] {0, 1, n, n + 1, 28, 1000}) {
        String letter = Calls.answer(x, "character", wrong, false);
        Due.equal("character(" + wrong + ", false)", letter, "throws.IndexOutOfBoundsException");
        String figure = Calls.answer(x, "character", wrong, true);
        Due.equal("character(" + wrong + ", true)", figure, "throws.IndexOutOfBoundsException");
      }
    }
    Due.sentence("Promise 11", "Throws `IndexOutOfBoundsException` if position is out of range");
    for (int wrong : new int[] {Integer.MIN_VALUE, -1, 0, 1, 6, 28, Integer.MAX_VALUE}) {
      Twins.refuse(Sample::busy, NO_INDEX, "character", wrong, true);
      Twins.refuse(Sample::busy, NO_INDEX, "character", wrong, false);
    }
  }

  private static void lead() {
    Due.sentence(
        "Promise 12",
        "that is phase(1) + delay * rate(1) - phase(0), as a number from -500 * N to 500 * N - 1"
            + " that is equal to it modulo 1000 * N, where N is the number of positions.");
    for (int n = 6; n <= 28; n++) {
      int half = 500 * n;
      leads(n, 10, half - 2, half - 2);
      leads(n, 10, half - 1, half - 1);
      leads(n, 10, half, -half);
      leads(n, 10, half + 1, 1 - half);
      leads(n, half + 9, 0, 1 - half);
      leads(n, half + 10, 0, -half);
      leads(n, half + 11, 0, half - 1);
      leads(n, 10, 0, 0);
      leads(n, 11, 0, -1);
      leads(n, 0, 2 * half - 1, 9);
      leads(n, 2 * half - 1, 0, 11);
    }
    String far = "office 0 10;office 0 999;delay 50;";
    Due.equal("lead() by 49950", Sample.of(far).lead(), -6050);
    Due.equal("lead() by 49950", Sample.of("wheel 6;" + far).lead(), 1950);
  }

  /** The way of office 1 in the delay of one tick is 10. */
  private static void leads(int n, int phase0, int phase1, int due) {
    String text = "wheel " + n + ";office " + phase0 + " 99;office " + phase1 + " 10;";
    Due.equal("lead() of " + text, Sample.of(text).lead(), due);
  }

  private static void letterShiftFirst() {
    Due.sentence("LINES AND PULSES", "The sequence of every line begins in letter shift.");
    TypeWheelTelegraph x = Sample.of("message 0 1/2/a/3;message 0 4;message 1 5;");
    Due.equal("pulses of the first line", Sample.pulses(x, 0, 0), "1 3 1 4");
    Due.equal("pulses behind figures", Sample.pulses(x, 0, 1), "1 4 1 4");
    Due.equal("pulses of letters behind figures", Sample.pulses(x, 0, 2), "2 0 3");
    Due.equal("pulses behind letters", Sample.pulses(x, 0, 3), "1 5 1 4");
    Due.equal("pulses of the next message", Sample.pulses(x, 0, 4), "1 6 1 4");
    Due.equal("pulses of the other office", Sample.pulses(x, 1, 0), "1 7 1 4");
  }

  private static void shiftsWithinLine() {
    Due.sentence(
        "LINES AND PULSES",
        "For each character: if it is a digit and the shift is not figures, position 1 is sent"
            + " first; if it is a letter and the shift is not letters, position 0 is sent first;"
            + " then the position of the character.");
    TypeWheelTelegraph x = Sample.of("message 0 aa/11/a1/1a/a11a/1aa1/a1a1;");
    Due.equal("pulses of aa", Sample.pulses(x, 0, 0), "2 2 0 4");
    Due.equal("pulses of 11", Sample.pulses(x, 0, 1), "1 3 3 1 5");
    Due.equal("pulses of a1", Sample.pulses(x, 0, 2), "2 1 3 1 5");
    Due.equal("pulses of 1a", Sample.pulses(x, 0, 3), "1 3 0 2 0 6");
    Due.equal("pulses of a11a", Sample.pulses(x, 0, 4), "2 1 3 3 0 2 0 8");
    Due.equal("pulses of 1aa1", Sample.pulses(x, 0, 5), "1 3 0 2 2 1 3 1 9");
    Due.equal("pulses of a1a1", Sample.pulses(x, 0, 6), "2 1 3 0 2 1 3 1 9");
  }

  private static void endSignalAndCheck() {
    Due.sentence(
        "LINES AND PULSES",
        "Let n be the number of positions so far. Then the position of the shift that holds at the"
            + " end of the line is sent once more (the end signal), and then the check position 2 +"
            + " n modulo (N - 2).");
    for (int n = 6; n <= 28; n++) {
      checkOf(n, 0, 2);
      checkOf(n, 1, 3);
      checkOf(n, n - 3, n - 1);
      checkOf(n, n - 2, 2);
      checkOf(n, n - 1, 3);
      checkOf(n, 30, 2 + 30 % (n - 2));
    }
    TypeWheelTelegraph x = Sample.of("message 0 " + "0a".repeat(15) + ";");
    Due.equal("n of the longest line", x.pulsesOf(0, 0), 62);
    Due.equal("the check behind 60 positions", x.pulseOf(0, 0, 61), 10);
    Due.equal("the check behind 25", checkBehindPairs(6, "a"), 27);
    Due.equal("the check behind 26", checkBehindPairs(6, "aa"), 2);
    Due.equal("the check behind 27", checkBehindPairs(6, "aaa"), 3);
    Due.equal("the check behind 51", checkBehindPairs(12, "aaa"), 27);
    Due.equal("the check behind 52", checkBehindPairs(12, "aaaa"), 2);
    Due.equal("the check behind 53", checkBehindPairs(12, "aaaaa"), 3);
  }

  /** The line has this many times the letter a, so that n is its length. */
  private static void checkOf(int n, int length, int check) {
    StringBuilder text = new StringBuilder("wheel " + n + ";message 0 /");
    for (int i = 0; i < Math.min(length, 30); i++) {
      text.append(i % 12 == 0 ? " a" : "a");
    }
    TypeWheelTelegraph x = Sample.of(text.append(';').toString());
    Due.equal("lineLength", x.lineLength(0, 1), length);
    Due.equal("pulsesOf", x.pulsesOf(0, 1), length + 2);
    Due.equal("the end signal", x.pulseOf(0, 1, length), 0);
    Due.equal("the check of " + text, x.pulseOf(0, 1, length + 1), check);
  }

  /** Each pair of a figure and a letter is four positions. */
  private static int checkBehindPairs(int pairs, String letters) {
    TypeWheelTelegraph x = Sample.of("message 0 " + "0a".repeat(pairs) + letters + ";");
    return x.pulseOf(0, 0, x.pulsesOf(0, 0) - 1);
  }

  private static void numberedPulses() {
    Due.sentence(
        "LINES AND PULSES",
        "A pulse that sends a position is numbered, from 1 on; answers and breaks are not"
            + " numbered.");
    // Line 0 is four pulses and an answer; the first pulse of line 1 is sent at 26.
    TypeWheelTelegraph x = Sample.of(Sample.IN_STEP + "lose 5;lose 7;");
    Due.equal("lose(1) before the first pulse", x.lose(1), 1);
    x.undo();
    x.start(0);
    x.run(25);
    Due.equal("lostPulses()", x.lostPulses(), 0);
    Due.equal("lose(1) behind four pulses and an answer", x.lose(1), 5);
    x.run(1);
    Due.equal("lostPulses(): number 5", x.lostPulses(), 1);
    x.run(4);
    Due.equal("pulses()", x.pulses(), 6);
    x.breakIn();
    x.run(1);
    Due.equal("lose(1) behind a break", x.lose(1), 7);
    x.start(0);
    x.run(12);
    Due.equal("lostPulses(): number 7", x.lostPulses(), 2);
  }

  private static void lostPulse() {
    Due.sentence(
        "LINES AND PULSES",
        "A numbered pulse whose number is named by \"lose\" never arrives.");
    // The pulses are sent at 4, 10, 12 and 20.
    int[] times = {4, 10, 12, 20};
    for (int lost = 0; lost <= 5; lost++) {
      String text = lost == 0 ? "" : "lose " + lost + ";lose " + lost + ";";
      TypeWheelTelegraph x = Sample.sending(Sample.IN_STEP + text);
      int printed = 0;
      for (int i = 0; i < times.length; i++) {
        x.run(times[i] - x.time());
        boolean isLost = lost == i + 1;
        Due.equal("underWay() at " + times[i] + " by " + text, x.underWay(), isLost ? 0 : 1);
        x.run(1);
        printed += isLost ? 0 : 1;
        Due.equal("prints(1) behind " + times[i] + " by " + text, x.prints(1), printed);
      }
      Due.equal("pulses()", x.pulses(), 4);
      Due.equal("lostPulses()", x.lostPulses(), 4 - printed);
    }
  }

  private static void lineCount() {
    Due.sentence("Promise 13", "Returns the number of lines of an office.");
    TypeWheelTelegraph x = Sample.of("message 1 ///////////;");
    Due.equal("lineCount(0)", x.lineCount(0), 0);
    Due.equal("lineCount(1)", x.lineCount(1), 12);
    x = Sample.of("message 0 ///////////;message 1 a;");
    Due.equal("lineCount(0)", x.lineCount(0), 12);
    Due.equal("lineCount(1)", x.lineCount(1), 1);
  }

  private static void linesDone() {
    Due.sentence(
        "Promise 14",
        "Returns the number of lines of an office that are done, given up ones included.");
    // Twelve lines, each of which takes a circle of 12 ticks for its 0 and 2, from 12 on.
    TypeWheelTelegraph x =
        Sample.sending(Sample.IN_STEP.replace("ad/1", "///////////") + "lose 4;retries 0;");
    x.run(17);
    Due.equal("linesDone(0)", x.linesDone(0), 0);
    x.run(1);
    Due.equal("linesDone(0): a good line", x.linesDone(0), 1);
    // The check is sent at 28 and lost, so that the line is given up at 28 + 2 + 50.
    x.run(61);
    Due.equal("linesDone(0)", x.linesDone(0), 1);
    x.run(1);
    Due.equal("linesDone(0): a line that is given up", x.linesDone(0), 2);
    x.runUntilDone(500);
    Due.equal("linesDone(0): all", x.linesDone(0), 12);
    Due.equal("linesDone(1)", x.linesDone(1), 0);
  }

  private static void lineLength() {
    Due.sentence("Promise 15", "- `line`: number of a line of the office, from 0");
    TypeWheelTelegraph x =
        Sample.of("message 0 abcdefghijkl abcdefghijkl abcdef//////////a/;message 1 a1;");
    Due.equal("lineLength(0, 0)", x.lineLength(0, 0), 30);
    Due.equal("lineLength(0, 1)", x.lineLength(0, 1), 0);
    Due.equal("lineLength(0, 10)", x.lineLength(0, 10), 1);
    Due.equal("lineLength(0, 11)", x.lineLength(0, 11), 0);
    Due.equal("lineLength(1, 0)", x.lineLength(1, 0), 2);
    Due.sentence(
        "Promise 15", "Throws `IndexOutOfBoundsException` if there is no such office or line");
    for (String name : new String[] {"lineLength", "pulsesOf", "ticksFor"}) {
      Due.equal(name, Calls.answer(x, name, 0, 12), "throws.IndexOutOfBoundsException");
      Due.equal(name, Calls.answer(x, name, 1, 1), "throws.IndexOutOfBoundsException");
      String none = Calls.answer(new TypeWheelTelegraph(), name, 0, 0);
      Due.equal(name + " without lines", none, "throws.IndexOutOfBoundsException");
      Twins.refuse(Sample::busy, NO_INDEX, name, 0, 2);
      Twins.refuse(Sample::busy, NO_INDEX, name, 1, 1);
      for (int far : FAR) {
        Twins.refuse(Sample::busy, NO_INDEX, name, 0, far);
        Twins.refuse(Sample::busy, NO_INDEX, name, 1, far);
        Twins.refuse(Sample::busy, NO_INDEX, name, far, 0);
      }
      Twins.refuse(Sample::busy, NO_INDEX, name, 2, 0);
    }
  }

  private static void pulsesOf() {
    Due.sentence(
        "Promise 16",
        "Returns the number of pulses by which a line is sent, with shifts, end signal and check.");
    TypeWheelTelegraph x = Sample.of("message 1 /a/1/a1/" + "0a".repeat(15) + ";");
    int[] due = {2, 3, 4, 5, 62};
    for (int line = 0; line < due.length; line++) {
      Due.equal("pulsesOf(1, " + line + ")", x.pulsesOf(1, line), due[line]);
    }
  }

  private static void pulseOf() {
    Due.sentence("Promise 17", "- `index`: 0 to pulsesOf(office, line) - 1");
    TypeWheelTelegraph x = Sample.of("message 0 /a/" + "0a".repeat(15) + ";");
    int[] first = {0, 2, 1};
    int[] last = {2, 3, 10};
    for (int line = 0; line < first.length; line++) {
      int pulses = x.pulsesOf(0, line);
      Due.equal("pulseOf(0, " + line + ", 0)", x.pulseOf(0, line, 0), first[line]);
      Due.equal("the last one", x.pulseOf(0, line, pulses - 1), last[line]);
      String behind = Calls.answer(x, "pulseOf", 0, line, pulses);
      Due.equal("the one behind it", behind, "throws.IndexOutOfBoundsException");
    }
    Due.sentence(
        "Promise 17",
        "Throws `IndexOutOfBoundsException` if there is no such office, line or index");
    for (int far : FAR) {
      Twins.refuse(Sample::busy, NO_INDEX, "pulseOf", 0, 0, far);
      Twins.refuse(Sample::busy, NO_INDEX, "pulseOf", 0, far, 0);
      Twins.refuse(Sample::busy, NO_INDEX, "pulseOf", far, 0, 0);
    }
    Twins.refuse(Sample::busy, NO_INDEX, "pulseOf", 0, 0, 4);
    Twins.refuse(Sample::busy, NO_INDEX, "pulseOf", 0, 2, 0);
    Twins.refuse(Sample::busy, NO_INDEX, "pulseOf", 1, 1, 0);
    Twins.refuse(Sample::busy, NO_INDEX, "pulseOf", 2, 0, 0);
  }

  private static void ticksFor() {
    Due.sentence(
        "Promise 18",
        "Returns the number of ticks from now until the last pulse of a line would be sent, if the"
            + " office began to send it in the next tick (by its own wheel alone).");
    // The line a: from the wheel's place to 2, then 26 positions to 0, then three to the check.
    for (int rate : new int[] {10, 100, 999}) {
      for (int phase : new int[] {2000 - rate - 1, 2000 - rate, 1999, 2000, 2001, 0, 27999}) {
        TypeWheelTelegraph x = Sample.of("office " + phase + " " + rate + ";message 0 a;");
        int ticks = x.ticksFor(0, 0);
        x.start(0);
        Sample.pass(x, ticks - 1);
        Due.equal("isWaiting() before " + ticks + " ticks", x.isWaiting(), false);
        x.run(1);
        Due.equal("isWaiting() after " + ticks + " ticks", x.isWaiting(), true);
      }
    }
    ticks("of a wheel that stops one short", 1899, 2 + 260 + 30);
    ticks("of a wheel that comes just there", 1900, 1 + 260 + 30);
    ticks("just before the position", 1999, 1 + 260 + 30);
    ticks("at the position", 2000, 280 + 260 + 30);
    ticks("behind the position", 2001, 280 + 260 + 30);
  }

  private static void ticks(String what, int phase, int due) {
    TypeWheelTelegraph x = Sample.of("office " + phase + " 100;message 0 a;");
    Due.equal("ticksFor(0, 0) " + what, x.ticksFor(0, 0), due);
  }

  private static void slowestLine() {
    Due.sentence(
        "Promise 19",
        "Returns the line of an office that needs the most ticks by ticksFor(), of several the"
            + " first one; NONE if the office has no lines.");
    Due.equal("no lines", new TypeWheelTelegraph().slowestLine(0), -1);
    Due.equal("no lines", Sample.of("message 0 a;").slowestLine(1), -1);
    Due.equal("one line", Sample.of("message 1 a;").slowestLine(1), 0);
    Due.equal("two alike", Sample.of("message 1 ab/ba/ba;").slowestLine(1), 1);
    Due.equal("all alike", Sample.of("message 0 ///////////;").slowestLine(0), 0);
    Due.equal("the last of twelve", Sample.of("message 0 ///////////a;").slowestLine(0), 11);
    TypeWheelTelegraph x = Sample.sending("message 0 ba/a;");
    x.runUntilDone(5000);
    Due.equal("linesDone(0)", x.linesDone(0) > 0, true);
    Due.equal("a line that is done", x.slowestLine(0), 0);
  }
}
