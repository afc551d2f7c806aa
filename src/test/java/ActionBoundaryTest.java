import java.util.Set;
import java.util.TreeSet;

/** The boundaries of ACTIONS AND EXCEPTIONS, and of promises 39 to 47, sentence by sentence. */
public final class ActionBoundaryTest {
  private static final Class<?> NO_INDEX = IndexOutOfBoundsException.class;
  private static final Class<?> NO_VALUE = IllegalArgumentException.class;
  private static final Class<?> NO_STATE = IllegalStateException.class;
  private static final String ACTIONS = "ACTIONS AND EXCEPTIONS";
  private static final String WHEELS = "wheel 6;office 0 500;office 5500 500;";
  private static final int MIN = Integer.MIN_VALUE;
  private static final int MAX = Integer.MAX_VALUE;

  public static void main(String[] args) {
    eightActions();
    evenIfNothingChanges();
    tenActions();
    restored();
    notRestored();
    firstListed();
    changesNothing();
    offices();
    runTicks();
    runResult();
    runTime();
    untilDoneLimit();
    untilDoneTicks();
    untilDoneTime();
    startLine();
    startRefused();
    breakTime();
    breakRefused();
    setRate();
    setRateRefused();
    nudge();
    nudgeRefused();
    setCorrection();
    setCorrectionRefused();
    loseAhead();
    loseRefused();
    loseTwenty();
    undo();
    Due.end("ActionBoundaryTest");
  }

  private static void eightActions() {
    Due.sentence(
        ACTIONS,
        "The methods run(), runUntilDone(), start(), breakIn(), setRate(), nudge(),"
            + " setCorrection() and lose() are actions.");
    String[] actions = {
      "start 0", "run 5", "runUntilDone 5", "breakIn", "setRate 0 400", "nudge 1 5",
      "setCorrection 5", "lose 5"
    };
    for (String call : actions) {
      TypeWheelTelegraph x = Sample.of(WHEELS + "message 0 a;");
      x.start(0);
      if (call.equals("start 0")) {
        x.undo();
      }
      recorded(x, call, 1);
    }
    String[] others = {
      "append 1 2 3 4 5", "truncate 0", "errorOffset", "positions", "time", "phase 0", "rate 0",
      "facing 1", "character 2 true", "lead", "lineCount 0", "linesDone 0", "lineLength 0 0",
      "pulsesOf 0 0", "pulseOf 0 0 0", "ticksFor 0 0", "slowestLine 1", "sender", "isWaiting",
      "sentOfLine", "repetition", "underWay", "nextPulseIn", "silence", "bufferLength",
      "bufferCharacter 0", "receivedLength 0", "pulses", "lostPulses", "prints 0", "misprints 0",
      "worstOffset 0", "meanOffset 0", "eventCount", "misprintsIn 30", "ticksUntilDone 30",
      "bestCorrection 30", "bestRate 0 30", "bestNudge 0 30", "format 0"
    };
    for (String call : others) {
      TypeWheelTelegraph x = Sample.sending(WHEELS + "message 0 a;");
      x.run(5);
      recorded(x, call, 0);
    }
  }

  private static void recorded(TypeWheelTelegraph x, String call, int actions) {
    x.nudge(0, 0);
    int before = x.undo();
    String answer = Calls.ask(x, call);
    Due.equal(call + " throws", answer.startsWith("throws"), false);
    int left = 0;
    while (!Calls.answer(x, "undo").startsWith("throws")) {
      left++;
    }
    Due.equal("the actions after " + call, left, before + actions);
  }

  private static void evenIfNothingChanges() {
    Due.sentence(
        ACTIONS,
        "A call of an action that does not throw is recorded, even if it changes nothing.");
    String[] calls = {
      "runUntilDone 5000", "setRate 0 500", "nudge 0 0", "nudge 1 12000", "setCorrection 200",
      "lose 1"
    };
    for (String call : calls) {
      TypeWheelTelegraph x = Sample.of(WHEELS + "lose 1;");
      x.run(3);
      String before = Calls.watch(x);
      Due.equal(call + " throws", Calls.ask(x, call).startsWith("throws"), false);
      Due.equal("after " + call, Calls.watch(x), before);
      Due.equal("undo() after " + call, x.undo(), 1);
      Due.equal("after undo() of " + call, Calls.watch(x), before);
    }
  }

  private static void tenActions() {
    Due.sentence(ACTIONS, "The latest 10 recorded actions can be undone.");
    for (int actions = 0; actions <= 32; actions++) {
      TypeWheelTelegraph x = new TypeWheelTelegraph();
      for (int action = 1; action <= actions; action++) {
        x.nudge(0, 1);
      }
      int kept = Math.min(actions, 10);
      for (int left = kept - 1; left >= 0; left--) {
        Due.equal("undo() after " + actions, x.undo(), left);
        Due.equal("phase(0)", x.phase(0), actions - kept + left);
      }
      Due.equal("one more", Calls.answer(x, "undo"), "throws.IllegalStateException");
      Due.equal("phase(0)", x.phase(0), actions - kept);
    }
    // What was undone is not kept: with one more, the nine that are left are ten again.
    TypeWheelTelegraph x = new TypeWheelTelegraph();
    for (int action = 1; action <= 11; action++) {
      x.nudge(0, 1);
    }
    x.undo();
    x.nudge(0, 100);
    Due.equal("undo()", x.undo(), 9);
    Due.equal("phase(0)", x.phase(0), 10);
    x.nudge(0, 100);
    x.nudge(0, 100);
    for (int left = 9; left >= 0; left--) {
      Due.equal("undo()", x.undo(), left);
    }
    Due.equal("phase(0): the oldest was dropped", x.phase(0), 2);
  }

  private static void restored() {
    Due.sentence(ACTIONS, "Undoing restores everything as it was before the action");
    String[] calls = {
      "run 1", "run 2000", "runUntilDone 5000", "breakIn", "setRate 0 10", "setRate 1 999",
      "nudge 0 -14000", "nudge 1 14000", "setCorrection 0", "lose 1", "lose 500"
    };
    for (String call : calls) {
      for (int ticks = 1; ticks <= 90; ticks += 4) {
        for (int phase : new int[] {5620, 400}) {
          TypeWheelTelegraph x = inTheMidst(phase, ticks);
          String before = goneOn(inTheMidst(phase, ticks));
          Due.equal(call + " throws", Calls.ask(x, call).startsWith("throws"), false);
          Due.equal("undo() of " + call, x.undo(), 2);
          Due.equal("what goes on after undo() of " + call, goneOn(x), before);
        }
      }
    }
    TypeWheelTelegraph x = Sample.of(Sample.IN_STEP);
    x.start(0);
    x.undo();
    Due.equal("after undo() of start", goneOn(x), goneOn(Sample.of(Sample.IN_STEP)));
  }

  /**
   * The check of the line is lost, and it is sent again. By the phase 400 all is misprinted: the
   * letters are read as figures.
   */
  private static TypeWheelTelegraph inTheMidst(int phase, int ticks) {
    String line = phase == 400 ? "1aa" : "ad";
    String text = Sample.IN_STEP.replace("5500", "" + phase).replace("ad", line);
    TypeWheelTelegraph x = Sample.sending(text + "lose 4;");
    x.run(ticks);
    return x;
  }

  private static String goneOn(TypeWheelTelegraph x) {
    StringBuilder seen = new StringBuilder(Calls.watch(x));
    x.run(40);
    seen.append(Calls.watch(x));
    seen.append(x.setCorrection(2)).append(' ');
    for (int i = 0; i < 21; i++) {
      seen.append(Calls.answer(x, "lose", 3)).append(' ');
    }
    x.run(160);
    return seen.append('\n').append(Calls.watch(x)).toString();
  }

  private static void notRestored() {
    Due.sentence(ACTIONS, "except the input buffer, the error offset and the formatted text.");
    TypeWheelTelegraph x = Sample.of(WHEELS + "message 0 a;");
    x.format(1);
    x.start(0);
    Calls.put(x, "delay 9;delay 0;");
    Calls.answer(x, "load");
    Calls.put(x, "delay 9;");
    int length = x.format(0);
    x.undo();
    Due.equal("sender()", x.sender(), -1);
    Due.equal("errorOffset()", x.errorOffset(), 14);
    Due.equal("formattedCharacter(0)", x.formattedCharacter(0), '0');
    Due.equal("the text of a sender", x.formattedCharacter(length - 1), '0');
    Due.equal("truncate(9)", Calls.answer(x, "truncate", 9), "throws.IllegalArgumentException");
    x.truncate(8);
    x.load();
    Due.equal("lead() by the delay 9", x.lead(), 900);
  }

  private static void firstListed() {
    Due.sentence(
        ACTIONS,
        "If several exceptions apply, the one that is listed first in the method's throws clause is"
            + " thrown.");
    for (String call : new String[] {"run 0", "run 2001", "runUntilDone 0", "runUntilDone 5001"}) {
      Twins.refuseCall(() -> at(100000), NO_VALUE, call);
    }
    for (String call : new String[] {"lose 0", "lose 501"}) {
      Twins.refuseCall(() -> Sample.of("lose 1;".repeat(20)), NO_VALUE, call);
    }
    String[] calls = {
      "start 2", "start -1", "setRate 2 9", "setRate -1 1000", "nudge 2 14001", "nudge -1 -14001",
      "bestRate 2 0", "bestRate -1 1001", "bestNudge 2 1001", "bestNudge -1 0", "event -1 3",
      "event 40 -1", "event 0 3"
    };
    for (String call : calls) {
      Twins.refuseCall(Sample::busy, NO_INDEX, call);
    }
    Twins.refuseCall(TypeWheelTelegraph::new, NO_INDEX, "start 2");
  }

  /** A telegraph with an idle office at this time. */
  private static TypeWheelTelegraph at(int time) {
    TypeWheelTelegraph x = Sample.of(WHEELS + "message 0 a;");
    Sample.pass(x, time);
    return x;
  }

  private static void changesNothing() {
    Due.sentence(
        ACTIONS,
        "A call that throws changes nothing, except that load() empties the buffer and sets the"
            + " error offset.");
    String[] indices = {
      "character 1 true", "lineLength 0 2", "pulsesOf 0 -1", "pulseOf 0 0 4", "ticksFor 1 1",
      "bufferCharacter 40", "receivedCharacter 1 0", "event 0 0", "formattedCharacter 99"
    };
    for (String call : indices) {
      Twins.refuseCall(Sample::busy, NO_INDEX, call);
    }
    String[] values = {
      "truncate -1", "truncate 21", "run 0", "run 2001", "runUntilDone 0", "runUntilDone 5001",
      "setRate 0 9", "setRate 1 1000", "nudge 0 -14001", "nudge 1 14001", "setCorrection -1",
      "setCorrection 501", "lose 0", "lose 501", "misprintsIn 0", "misprintsIn 2001",
      "ticksUntilDone 0", "ticksUntilDone 5001", "bestCorrection 0", "bestCorrection 1001",
      "bestRate 0 0", "bestRate 1 1001", "bestNudge 0 0", "bestNudge 1 1001"
    };
    for (String call : values) {
      Twins.refuseCall(Sample::busy, NO_VALUE, call);
    }
    Twins.refuseCall(Sample::busy, NO_STATE, "start 0");
    Twins.refuseCall(Sample::busy, NO_STATE, "start 1");
    Twins.refuseCall(() -> at(100000), NO_STATE, "run 1");
    Twins.refuseCall(() -> at(99000), NO_STATE, "runUntilDone 1001");
    Twins.refuseCall(() -> at(0), NO_STATE, "breakIn");
    Twins.refuseCall(() -> at(0), NO_STATE, "undo");
    Twins.refuseCall(() -> Sample.of("lose 1;".repeat(20)), NO_STATE, "lose 1");
  }

  private static void offices() {
    Due.sentence(
        ACTIONS,
        "An office is 0 or 1; every method with a parameter named office throws"
            + " IndexOutOfBoundsException for any other value.");
    String[] calls = {
      "phase #", "rate #", "facing #", "lineCount #", "linesDone #", "lineLength # 0",
      "pulsesOf # 0", "pulseOf # 0 0", "ticksFor # 0", "slowestLine #", "receivedLength #",
      "receivedCharacter # 0", "prints #", "misprints #", "worstOffset #", "meanOffset #",
      "start #", "setRate # 100", "nudge # 0", "bestRate # 1", "bestNudge # 1", "format #"
    };
    Set<String> names = new TreeSet<>();
    for (String call : calls) {
      names.add(call.substring(0, call.indexOf(' ')));
      for (int office : new int[] {MIN, -2, -1, 2, 3, MAX}) {
        Twins.refuseCall(Sample::busy, NO_INDEX, call.replace("#", String.valueOf(office)));
      }
      for (int office = 0; office < 2; office++) {
        String right = Calls.ask(bothReceived(), call.replace("#", String.valueOf(office)));
        Due.equal(call + " throws for " + office, right.startsWith("throws"), false);
      }
    }
    Due.equal("the methods with an office", names, Document.methodsWith("int office"));
  }

  /** Each office has received a line, and has another one to send. */
  private static TypeWheelTelegraph bothReceived() {
    TypeWheelTelegraph x = Sample.of(WHEELS + "message 0 a/b;message 1 a/b;guard 50;");
    for (int office = 0; office < 2; office++) {
      x.nudge(1 - office, x.phase(office) - x.rate(office) - x.phase(1 - office));
      int ticks = x.ticksFor(office, 0);
      x.start(office);
      x.run(ticks + 2);
      x.breakIn();
      x.run(1);
    }
    return x;
  }

  private static void runTicks() {
    Due.sentence("Promise 39", "- `ticks`: 1 to 2000");
    TypeWheelTelegraph x = at(0);
    x.run(1);
    Due.equal("time() after run(1)", x.time(), 1);
    x.run(1999);
    Due.equal("time() after run(1999)", x.time(), 2000);
    x.run(2000);
    Due.equal("time() after run(2000)", x.time(), 4000);
    Due.sentence("Promise 39", "Throws `IllegalArgumentException` if ticks is out of range");
    for (int ticks : new int[] {MIN, -1, 0, 2001, 5000, MAX}) {
      Twins.refuse(Sample::busy, NO_VALUE, "run", ticks);
      Twins.refuse(() -> at(99999), NO_VALUE, "run", ticks);
    }
  }

  private static void runResult() {
    Due.sentence(
        "Promise 39", "Returns the number of numbered pulses that were sent in these ticks.");
    // The pulses are sent at 4, 12 and 18, the second one is lost.
    TypeWheelTelegraph x = Sample.sending(WHEELS + "message 0 a;lose 2;guard 1000;");
    Due.equal("run(3)", x.run(3), 0);
    Due.equal("run(1)", x.run(1), 1);
    Due.equal("run(7)", x.run(7), 0);
    Due.equal("run(1) with a lost one", x.run(1), 1);
    Due.equal("run(2000)", x.run(2000), 1 + 3);
  }

  private static void runTime() {
    Due.sentence("Promise 39", "Throws `IllegalStateException` if the time would exceed 100000");
    for (int left : new int[] {1, 2, 1999, 2000}) {
      TypeWheelTelegraph x = at(100000 - left);
      x.run(left);
      Due.equal("time()", x.time(), 100000);
      if (left < 2000) {
        Twins.refuse(() -> at(100000 - left), NO_STATE, "run", left + 1);
        Twins.refuse(() -> at(100000 - left), NO_STATE, "run", 2000);
      }
    }
    Twins.refuse(() -> at(100000), NO_STATE, "run", 1);
    Twins.refuse(() -> at(98001), NO_STATE, "run", 2000);
    Due.equal("errorOffset()", at(100000).errorOffset(), -1);
  }

  private static void untilDoneLimit() {
    Due.sentence("Promise 40", "- `limit`: 1 to 5000");
    Due.equal("runUntilDone(1)", waitingLong().runUntilDone(1), 1);
    Due.equal("runUntilDone(4999)", waitingLong().runUntilDone(4999), 4999);
    Due.equal("runUntilDone(5000)", waitingLong().runUntilDone(5000), 5000);
    Due.sentence("Promise 40", "Throws `IllegalArgumentException` if limit is out of range");
    for (int limit : new int[] {MIN, -1, 0, 5001, MAX}) {
      Twins.refuse(Sample::busy, NO_VALUE, "runUntilDone", limit);
      Twins.refuse(() -> at(0), NO_VALUE, "runUntilDone", limit);
    }
  }

  /** The line fails at 18 + 2 + 5000, as its check is lost. */
  private static TypeWheelTelegraph waitingLong() {
    return Sample.sending(WHEELS + "message 0 a;guard 5000;retries 0;lose 3;");
  }

  private static void untilDoneTicks() {
    Due.sentence("Promise 40", "Makes ticks until there is no sender, at most limit ticks.");
    TypeWheelTelegraph x = Sample.sending(WHEELS + "message 0 a;");
    Due.equal("runUntilDone(19)", x.runUntilDone(19), 19);
    Due.equal("sender()", x.sender(), 0);
    x.undo();
    Due.equal("runUntilDone(20)", x.runUntilDone(20), 20);
    Due.equal("sender()", x.sender(), -1);
    x.undo();
    Due.equal("runUntilDone(21)", x.runUntilDone(21), 20);
    Due.equal("time()", x.time(), 20);
    x = waitingLong();
    Due.equal("runUntilDone(5000)", x.runUntilDone(5000), 5000);
    Due.equal("runUntilDone(5000)", x.runUntilDone(5000), 20);
    Due.sentence(
        "Promise 40", "Returns the number of ticks that were made; 0 if there is no sender.");
    Due.equal("runUntilDone(1)", x.runUntilDone(1), 0);
    Due.equal("runUntilDone(5000)", x.runUntilDone(5000), 0);
    Due.equal("time()", x.time(), 5020);
  }

  private static void untilDoneTime() {
    Due.sentence(
        "Promise 40", "Throws `IllegalStateException` if the time plus limit exceeds 100000");
    Due.equal("runUntilDone(5000) at 95000", at(95000).runUntilDone(5000), 0);
    Due.equal("runUntilDone(1) at 99999", at(99999).runUntilDone(1), 0);
    Twins.refuse(() -> at(95001), NO_STATE, "runUntilDone", 5000);
    Twins.refuse(() -> at(99999), NO_STATE, "runUntilDone", 2);
    Twins.refuse(() -> at(100000), NO_STATE, "runUntilDone", 1);
    // Also when the transmission ends sooner: at 98976, where the wheel is at 0, it takes 20 ticks.
    Due.equal("runUntilDone(1024)", startedLate().runUntilDone(1024), 20);
    Twins.refuse(ActionBoundaryTest::startedLate, NO_STATE, "runUntilDone", 1025);
  }

  private static TypeWheelTelegraph startedLate() {
    TypeWheelTelegraph x = at(98976);
    x.start(0);
    return x;
  }

  private static void startLine() {
    Due.sentence(
        "Promise 41",
        "Makes an office the sender; it is sending its first line that is not done. The receiver is"
            + " cleared.");
    // The check is sent 4 ticks behind the first pulse; its answer comes 2 ticks later. A break
    // that arrives before the answer leaves the line to be sent again.
    TypeWheelTelegraph x = Sample.of(WHEELS + "message 0 ///////////;");
    for (int line = 0; line < 12; line++) {
      Due.equal("start(0)", x.start(0), line);
      Due.equal("sender()", x.sender(), 0);
      Due.equal("isWaiting()", x.isWaiting(), false);
      Due.equal("sentOfLine()", x.sentOfLine(), 0);
      Due.equal("bufferLength()", x.bufferLength(), 0);
      x.run(x.nextPulseIn() + 4);
      x.breakIn();
      x.run(1);
      Due.equal("linesDone(0)", x.linesDone(0), line);
      Due.equal("start(0) again", x.start(0), line);
      x.run(x.nextPulseIn() + 6);
      Due.equal("linesDone(0)", x.linesDone(0), line + 1);
      if (line < 11) {
        x.breakIn();
        x.run(1);
      }
    }
    Due.equal("sender() behind the last line", x.sender(), -1);
    Due.equal("start(0)", Calls.answer(x, "start", 0), "throws.IllegalStateException");
  }

  private static void startRefused() {
    Due.sentence(
        "Promise 41",
        "Throws `IllegalStateException` if there is a sender, or all lines of the office are done");
    Twins.refuse(() -> at(0), NO_STATE, "start", 1);
    Twins.refuse(TypeWheelTelegraph::new, NO_STATE, "start", 0);
    Twins.refuse(ActionBoundaryTest::oneDone, NO_STATE, "start", 0);
    Due.equal("start(1)", oneDone().start(1), 0);
    Twins.refuse(ActionBoundaryTest::startedLate, NO_STATE, "start", 0);
    Twins.refuse(ActionBoundaryTest::startedLate, NO_STATE, "start", 1);
    for (int office : new int[] {MIN, -1, 2, MAX}) {
      Twins.refuse(() -> at(0), NO_INDEX, "start", office);
    }
    // In the very tick in which the transmission ends, the next one can start.
    TypeWheelTelegraph x = Sample.sending(WHEELS + "message 0 a;message 1 a;");
    x.run(19);
    Due.equal("start(1)", Calls.answer(x, "start", 1), "throws.IllegalStateException");
    x.run(1);
    Due.equal("start(1)", x.start(1), 0);
  }

  private static TypeWheelTelegraph oneDone() {
    TypeWheelTelegraph x = Sample.sending(WHEELS + "message 0 a;message 1 a;");
    x.runUntilDone(100);
    return x;
  }

  private static void breakTime() {
    Due.sentence("Promise 42", "Returns the time at which it will arrive.");
    for (int delay : new int[] {1, 2, 49, 50}) {
      TypeWheelTelegraph x = Sample.sending(WHEELS + "message 0 a;delay " + delay + ";");
      Due.equal("breakIn() at 0", x.breakIn(), delay);
      x.undo();
      x.run(3);
      int arrival = x.breakIn();
      Due.equal("breakIn() at 3", arrival, 3 + delay);
      Sample.pass(x, delay - 1);
      Due.equal("sender() a tick before", x.sender(), 0);
      x.run(1);
      Due.equal("sender()", x.sender(), -1);
      Due.equal("the time of the event", x.event(0, 0), arrival);
    }
    TypeWheelTelegraph x = Sample.of(WHEELS + "message 0 a;delay 50;");
    Sample.pass(x, 100000);
    x.start(0);
    Due.equal("breakIn() at 100000", x.breakIn(), 100050);
  }

  private static void breakRefused() {
    Due.sentence("Promise 42", "Throws `IllegalStateException` if there is no sender");
    Twins.refuse(TypeWheelTelegraph::new, NO_STATE, "breakIn");
    Twins.refuse(() -> at(50), NO_STATE, "breakIn");
    Twins.refuse(ActionBoundaryTest::oneDone, NO_STATE, "breakIn");
    TypeWheelTelegraph x = Sample.sending(WHEELS + "message 0 a;");
    x.run(19);
    Due.equal("breakIn() while it is waiting", x.breakIn(), 20);
    x.run(1);
    Due.equal("breakIn()", Calls.answer(x, "breakIn"), "throws.IllegalStateException");
  }

  private static void setRate() {
    Due.sentence("Promise 43", "- `rate`: 10 to 999");
    TypeWheelTelegraph x = at(0);
    for (int office = 0; office < 2; office++) {
      int before = 500;
      for (int rate : new int[] {10, 11, 998, 999, 10}) {
        Due.equal("setRate: the previous one", x.setRate(office, rate), before);
        Due.equal("rate", x.rate(office), rate);
        before = rate;
      }
    }
    x.run(1);
    Due.equal("phase(0)", x.phase(0), 10);
    Due.equal("phase(1)", x.phase(1), 5510);
  }

  private static void setRateRefused() {
    Due.sentence("Promise 43", "Throws `IllegalArgumentException` if rate is out of range");
    for (int rate : new int[] {MIN, -1, 0, 9, 1000, MAX}) {
      Twins.refuse(Sample::busy, NO_VALUE, "setRate", 0, rate);
      Twins.refuse(Sample::busy, NO_VALUE, "setRate", 1, rate);
    }
  }

  private static void nudge() {
    Due.sentence(
        "Promise 44", "- `change`: -14000 to 14000, added to the phase modulo 1000 * N");
    for (int n : new int[] {6, 14, 28}) {
      int circle = 1000 * n;
      int[][] cases = {
        {0, -1}, {0, 0}, {0, 1}, {circle - 1, 0}, {circle - 1, 1}, {circle - 1, 2}, {1, -1},
        {1, -2}, {0, 14000}, {0, -14000}, {0, 13999}, {0, -13999}, {circle - 1, 14000},
        {circle - 14000, 14000}, {circle - 14000, 13999}, {13999, -14000}, {14000, -14000}
      };
      for (int[] one : cases) {
        int phase = Math.floorMod(one[0], circle);
        for (int office = 0; office < 2; office++) {
          String text = "wheel " + n + ";office " + phase + " 10;office " + phase + " 10;";
          TypeWheelTelegraph x = Sample.of(text);
          int due = Math.floorMod(phase + one[1], circle);
          Due.equal("nudge " + one[1] + " of " + phase, x.nudge(office, one[1]), due);
          Due.equal("phase", x.phase(office), due);
          Due.equal("the other phase", x.phase(1 - office), phase);
        }
      }
    }
  }

  private static void nudgeRefused() {
    Due.sentence("Promise 44", "Throws `IllegalArgumentException` if change is out of range");
    for (int change : new int[] {MIN, -14001, 14001, MAX}) {
      Twins.refuse(Sample::busy, NO_VALUE, "nudge", 0, change);
      Twins.refuse(Sample::busy, NO_VALUE, "nudge", 1, change);
    }
  }

  private static void setCorrection() {
    Due.sentence("Promise 45", "- `limit`: 0 to 500");
    TypeWheelTelegraph x = new TypeWheelTelegraph();
    int before = 200;
    for (int limit : new int[] {0, 1, 499, 500, 0}) {
      Due.equal("setCorrection: the previous one", x.setCorrection(limit), before);
      before = limit;
    }
    // 120 ahead at the first print, at 5.
    for (int limit : new int[] {0, 119, 120, 121, 500}) {
      x = Sample.sending(WHEELS + "message 0 a;");
      x.nudge(1, 120);
      x.setCorrection(limit);
      x.run(5);
      Due.equal("phase(1) by " + limit, x.phase(1), 2000 + Math.max(0, 120 - limit));
    }
  }

  private static void setCorrectionRefused() {
    Due.sentence("Promise 45", "Throws `IllegalArgumentException` if limit is out of range");
    for (int limit : new int[] {MIN, -1, 501, MAX}) {
      Twins.refuse(Sample::busy, NO_VALUE, "setCorrection", limit);
    }
  }

  private static void loseAhead() {
    Due.sentence(
        "Promise 46",
        "- `ahead`: 1 for the next numbered pulse, 2 for the one after it, and so on, up to 500");
    // The pulses are sent at 4, 12 and 18.
    for (int ahead = 1; ahead <= 3; ahead++) {
      TypeWheelTelegraph x = Sample.sending(WHEELS + "message 0 a;");
      Due.equal("lose(" + ahead + ")", x.lose(ahead), ahead);
      int[] times = {4, 12, 18};
      for (int i = 0; i < times.length; i++) {
        x.run(times[i] - x.time());
        Due.equal("lostPulses() at " + times[i], x.lostPulses(), i + 1 >= ahead ? 1 : 0);
      }
    }
    TypeWheelTelegraph x = Sample.sending(WHEELS + "message 0 a;");
    x.run(12);
    Due.equal("lose(1) behind two", x.lose(1), 3);
    Due.equal("lose(500) behind two", x.lose(500), 502);
    Due.equal("lose(499) behind two", x.lose(499), 501);
    Due.equal("lose(1) again", x.lose(1), 3);
  }

  private static void loseRefused() {
    Due.sentence("Promise 46", "Throws `IllegalArgumentException` if ahead is out of range");
    for (int ahead : new int[] {MIN, -1, 0, 501, MAX}) {
      Twins.refuse(Sample::busy, NO_VALUE, "lose", ahead);
    }
  }

  private static void loseTwenty() {
    Due.sentence(
        "Promise 46",
        "Throws `IllegalStateException` if pulses were named 20 times (those of the text included,"
            + " also the same one again, also if they are past)");
    for (int named = 0; named <= 20; named++) {
      TypeWheelTelegraph x = Sample.of("lose 1;".repeat(named));
      for (int more = named + 1; more <= 20; more++) {
        Due.equal("lose(1), the " + more + "th", x.lose(1), 1);
      }
      Due.equal("the 21st", Calls.answer(x, "lose", 1), "throws.IllegalStateException");
    }
    Twins.refuse(() -> Sample.of("lose 1;".repeat(20)), NO_STATE, "lose", 1);
    Twins.refuse(() -> Sample.of("lose 1;".repeat(20)), NO_STATE, "lose", 500);
    // Also if they are past: three pulses are sent, and two of them were named ten times each.
    TypeWheelTelegraph x = Sample.of(WHEELS + "message 0 a;" + "lose 1;lose 2;".repeat(10));
    x.start(0);
    x.run(18);
    Due.equal("lostPulses()", x.lostPulses(), 2);
    Due.equal("the 21st", Calls.answer(x, "lose", 1), "throws.IllegalStateException");
    // What is undone was not named.
    x = Sample.of("lose 1;".repeat(19));
    x.lose(1);
    x.undo();
    Due.equal("lose(1)", x.lose(1), 1);
    Due.equal("the 21st", Calls.answer(x, "lose", 1), "throws.IllegalStateException");
  }

  private static void undo() {
    Due.sentence("Promise 47", "Returns the number of actions that can still be undone.");
    TypeWheelTelegraph x = at(0);
    x.setRate(0, 10);
    Due.equal("undo() of one", x.undo(), 0);
    x.setRate(0, 10);
    x.start(0);
    Due.equal("undo() of two", x.undo(), 1);
    Due.sentence("Promise 47", "Throws `IllegalStateException` if there is none");
    Twins.refuse(TypeWheelTelegraph::new, NO_STATE, "undo");
    Twins.refuse(() -> at(0), NO_STATE, "undo");
    Twins.refuse(ActionBoundaryTest::allUndone, NO_STATE, "undo");
  }

  private static TypeWheelTelegraph allUndone() {
    TypeWheelTelegraph x = at(0);
    for (int action = 1; action <= 12; action++) {
      x.nudge(0, 1);
    }
    for (int action = 1; action <= 10; action++) {
      x.undo();
    }
    return x;
  }
}
