/** The boundaries of the section EVENTS, and of promises 20 to 38, sentence by sentence. */
public final class WatchBoundaryTest {
  private static final Class<?> NO_INDEX = IndexOutOfBoundsException.class;
  private static final Class<?> NO_VALUE = IllegalArgumentException.class;
  private static final String WHEELS = "wheel 6;office 0 500;office 5500 500;";

  public static void main(String[] args) {
    sender();
    isWaiting();
    sentOfLine();
    repetition();
    underWay();
    nextPulseIn();
    silence();
    bufferLength();
    bufferCharacter();
    receivedLength();
    receivedCharacter();
    pulses();
    lostPulses();
    prints();
    misprints();
    worstOffset();
    meanOffset();
    eventCount();
    eventIndex();
    eventWhat();
    latestForty();
    eventValues();
    eventSides();
    Due.end("WatchBoundaryTest");
  }

  /** The line a is sent by 2 0 3 at 4, 12, 18; its answer comes at 20. */
  private static TypeWheelTelegraph sendingA(String more) {
    return Sample.sending(WHEELS + "message 0 a;" + more);
  }

  private static void sender() {
    Due.sentence("Promise 20", "Returns the sender; NONE if there is none.");
    TypeWheelTelegraph x = Sample.of(WHEELS + "message 0 a;message 1 a;");
    Due.equal("sender() before the start", x.sender(), -1);
    x.start(0);
    Due.equal("sender()", x.sender(), 0);
    x.run(19);
    Due.equal("sender() a tick before the end", x.sender(), 0);
    x.run(1);
    Due.equal("sender() at the end", x.sender(), -1);
    x.start(1);
    Due.equal("sender()", x.sender(), 1);
    x.undo();
    Due.equal("sender() after undo()", x.sender(), -1);
  }

  private static void isWaiting() {
    Due.sentence("Promise 21", "Returns true if there is a sender and it is waiting.");
    TypeWheelTelegraph x = sendingA("");
    Due.equal("isWaiting() at the start", x.isWaiting(), false);
    x.run(17);
    Due.equal("isWaiting() at 17", x.isWaiting(), false);
    x.run(1);
    Due.equal("isWaiting() at 18", x.isWaiting(), true);
    x.run(1);
    Due.equal("isWaiting() at 19", x.isWaiting(), true);
    x.run(1);
    Due.equal("isWaiting() without a sender", x.isWaiting(), false);
    Due.equal("isWaiting() of a new object", new TypeWheelTelegraph().isWaiting(), false);
  }

  private static void sentOfLine() {
    Due.sentence(
        "Promise 22",
        "Returns the number of positions of the current line that have been sent already; 0 if"
            + " there is no sender.");
    TypeWheelTelegraph x = Sample.sending(WHEELS + "message 0 a/b;lose 1;");
    int[] times = {3, 4, 11, 12, 17, 18, 19};
    int[] sent = {0, 1, 1, 2, 2, 3, 3};
    for (int i = 0; i < times.length; i++) {
      x.run(times[i] - x.time());
      Due.equal("sentOfLine() at " + times[i], x.sentOfLine(), sent[i]);
    }
    x.run(1);
    Due.equal("sentOfLine() of the repeated line", x.sentOfLine(), 0);
    x.runUntilDone(500);
    Due.equal("sentOfLine() at the end", x.sentOfLine(), 0);
    Due.equal("sentOfLine() of a new object", new TypeWheelTelegraph().sentOfLine(), 0);
    x = Sample.sending("wheel 6;office 0 500;message 0 " + "0a".repeat(15) + ";");
    Sample.pass(x, x.ticksFor(0, 0));
    Due.equal("sentOfLine() of the longest line", x.sentOfLine(), 62);
  }

  private static void repetition() {
    Due.sentence(
        "Promise 23",
        "Returns how often the current line was repeated; 0 if there is no sender.");
    StringBuilder losses = new StringBuilder("guard 1;retries 9;");
    for (int sending = 1; sending <= 10; sending++) {
      losses.append("lose ").append(3 * sending).append(';');
    }
    // The line fails at 18 + 2 + 1, and is repeated from 28 on: each time 24 ticks more.
    TypeWheelTelegraph x = sendingA(losses.toString());
    Due.equal("repetition() at the start", x.repetition(), 0);
    for (int times = 1; times <= 9; times++) {
      x.run(24 * times - 4 - x.time());
      Due.equal("repetition() before the failure", x.repetition(), times - 1);
      x.run(1);
      Due.equal("repetition() after the failure", x.repetition(), times);
    }
    x.runUntilDone(50);
    Due.equal("repetition() at the end", x.repetition(), 0);
    Due.equal("the code of the last but one", x.event(x.eventCount() - 2, 1), 4);
    Due.equal("repetition() of a new object", new TypeWheelTelegraph().repetition(), 0);
  }

  private static void underWay() {
    Due.sentence(
        "Promise 24",
        "Returns the number of pulses, answers and breaks under way (lost pulses do not count).");
    TypeWheelTelegraph x = Sample.sendingInStep(WHEELS + "message 0 a;delay 15;lose 1;");
    // The end signal and the check arrive at 27 and 33, and the answer at 48.
    int[] times = {3, 4, 11, 12, 17, 18, 26, 27, 32, 33, 47};
    int[] underWay = {0, 0, 0, 1, 1, 2, 2, 1, 1, 1, 1};
    for (int i = 0; i < times.length; i++) {
      x.run(times[i] - x.time());
      Due.equal("underWay() at " + times[i], x.underWay(), underWay[i]);
    }
    x.breakIn();
    Due.equal("underWay() with a break", x.underWay(), 2);
    x.undo();
    Due.equal("underWay() without it", x.underWay(), 1);
    x.run(1);
    Due.equal("underWay() at 48", x.underWay(), 0);
    Due.equal("underWay() of a new object", new TypeWheelTelegraph().underWay(), 0);
  }

  private static void nextPulseIn() {
    Due.sentence(
        "Promise 25",
        "Returns the number of ticks after which the sender will send its next pulse (by its own"
            + " wheel alone, whatever is under way); NONE if there is no sender or it is waiting.");
    next(10, 1989, 2);
    next(10, 1990, 1);
    next(10, 1999, 1);
    next(10, 2000, 2800);
    next(10, 2001, 2800);
    next(10, 2010, 2799);
    next(999, 1001, 1);
    next(999, 1000, 2);
    next(999, 2000, 29);
    next(999, 27999, 3);
    next(999, 0, 3);
    TypeWheelTelegraph x = sendingA("");
    x.breakIn();
    Due.equal("nextPulseIn(), whatever is under way", x.nextPulseIn(), 4);
    x.undo();
    x.run(17);
    Due.equal("nextPulseIn() before the check", x.nextPulseIn(), 1);
    x.run(1);
    Due.equal("nextPulseIn() while it is waiting", x.nextPulseIn(), -1);
    x.run(2);
    Due.equal("nextPulseIn() without a sender", x.nextPulseIn(), -1);
    Due.equal("nextPulseIn() of a new object", new TypeWheelTelegraph().nextPulseIn(), -1);
  }

  private static void next(int rate, int phase, int ticks) {
    TypeWheelTelegraph x = Sample.sending("office " + phase + " " + rate + ";message 0 a;");
    Due.equal("nextPulseIn() from " + phase + " by " + rate, x.nextPulseIn(), ticks);
    Sample.pass(x, ticks - 1);
    Due.equal("pulses() a tick before", x.pulses(), 0);
    x.run(1);
    Due.equal("pulses()", x.pulses(), 1);
  }

  private static void silence() {
    Due.sentence(
        "Promise 26",
        "Returns the time since the latest numbered pulse arrived at the receiver, or since it"
            + " became the receiver, if none has arrived since then; 0 if there is no sender.");
    TypeWheelTelegraph x = Sample.of(WHEELS + "message 0 a;lose 2;");
    x.run(12);
    Due.equal("silence() without a sender", x.silence(), 0);
    x.start(0);
    Due.equal("silence() at the start", x.silence(), 0);
    int[] times = {13, 16, 17, 18, 25, 30, 31};
    int[] silence = {1, 4, 0, 1, 8, 13, 0};
    for (int i = 0; i < times.length; i++) {
      x.run(times[i] - x.time());
      Due.equal("silence() at " + times[i], x.silence(), silence[i]);
    }
    x.undo();
    Due.equal("silence() after undo()", x.silence(), 13);
    x.breakIn();
    x.run(1);
    Due.equal("silence() after a break", x.silence(), 0);
    Due.equal("silence() of a new object", new TypeWheelTelegraph().silence(), 0);
  }

  private static void bufferLength() {
    Due.sentence(
        "Promise 27",
        "Returns the number of characters in the line buffer of the receiver; 0 if there is no"
            + " sender.");
    TypeWheelTelegraph x = sendingA("");
    int[] times = {4, 5, 18, 19};
    int[] lengths = {0, 1, 1, 0};
    for (int i = 0; i < times.length; i++) {
      x.run(times[i] - x.time());
      Due.equal("bufferLength() at " + times[i], x.bufferLength(), lengths[i]);
    }
    x = sendingA("");
    x.run(5);
    x.breakIn();
    x.run(1);
    Due.equal("bufferLength() without a sender", x.bufferLength(), 0);
    Due.equal("bufferLength() of a new object", new TypeWheelTelegraph().bufferLength(), 0);
  }

  private static void bufferCharacter() {
    Due.sentence("Promise 28", "- `index`: 0 to bufferLength() - 1");
    // Five positions ahead, all the 60 pulses of the pairs 0a are read as letters.
    TypeWheelTelegraph x =
        Sample.of("office 0 500;office 27500 500;message 0 " + "0a".repeat(15) + ";");
    x.nudge(1, 5000);
    x.start(0);
    for (int pairs = 0; pairs <= 12; pairs++) {
      int length = Math.min(40, 4 * pairs);
      Due.equal("bufferLength()", x.bufferLength(), length);
      if (length > 0) {
        Due.equal("bufferCharacter(0)", x.bufferCharacter(0), 'e');
        Due.equal("the last one", x.bufferCharacter(length - 1), 'f');
        Due.equal("the last one but one", x.bufferCharacter(length - 2), 'd');
      }
      for (int wrong : new int[] {length, 40, 41, -1, Integer.MIN_VALUE, Integer.MAX_VALUE}) {
        String answer = Calls.answer(x, "bufferCharacter", wrong);
        Due.equal("bufferCharacter(" + wrong + ")", answer, "throws.IndexOutOfBoundsException");
      }
      x.run(112);
    }
    Due.sentence("Promise 28", "Throws `IndexOutOfBoundsException` if there is no such character");
    Due.equal("bufferLength() of the busy one", Sample.busy().bufferLength(), 1);
    Twins.refuse(Sample::busy, NO_INDEX, "bufferCharacter", 1);
    Twins.refuse(Sample::busy, NO_INDEX, "bufferCharacter", -1);
    Twins.refuse(TypeWheelTelegraph::new, NO_INDEX, "bufferCharacter", 0);
  }

  private static void receivedLength() {
    Due.sentence("Promise 29", "Returns the length of the received text of an office.");
    TypeWheelTelegraph x = sendingA("");
    x.run(18);
    Due.equal("receivedLength(1) before the check", x.receivedLength(1), 0);
    x.run(1);
    Due.equal("receivedLength(1) after the check", x.receivedLength(1), 2);
    Due.equal("receivedLength(0)", x.receivedLength(0), 0);
    x = Sample.sending(WHEELS + "message 0 /;");
    x.run(17);
    Due.equal("receivedLength(1) of an empty line", x.receivedLength(1), 1);
  }

  private static void receivedCharacter() {
    Due.sentence("Promise 30", "- `index`: 0 to receivedLength(office) - 1");
    TypeWheelTelegraph x = sendingA("");
    x.run(19);
    Due.equal("receivedCharacter(1, 0)", x.receivedCharacter(1, 0), 'a');
    Due.equal("receivedCharacter(1, 1)", x.receivedCharacter(1, 1), '/');
    Due.sentence(
        "Promise 30",
        "Throws `IndexOutOfBoundsException` if there is no such office or character");
    for (int far : new int[] {-1, Integer.MIN_VALUE, Integer.MAX_VALUE, 2}) {
      Twins.refuse(WatchBoundaryTest::at19, NO_INDEX, "receivedCharacter", 1, far);
      Twins.refuse(WatchBoundaryTest::at19, NO_INDEX, "receivedCharacter", far, 0);
    }
    Twins.refuse(WatchBoundaryTest::at19, NO_INDEX, "receivedCharacter", 0, 0);
  }

  private static TypeWheelTelegraph at19() {
    TypeWheelTelegraph x = sendingA("");
    x.run(19);
    return x;
  }

  private static void pulses() {
    Due.sentence("Promise 31", "Returns the number of numbered pulses that were sent.");
    TypeWheelTelegraph x = sendingA("lose 3;");
    Due.equal("pulses()", x.pulses(), 0);
    x.run(3);
    Due.equal("pulses() a tick before", x.pulses(), 0);
    x.run(1);
    Due.equal("pulses()", x.pulses(), 1);
    x.run(14);
    Due.equal("pulses(): lost ones were sent, too", x.pulses(), 3);
    x.breakIn();
    x.run(1);
    Due.equal("pulses(): breaks are not numbered", x.pulses(), 3);
  }

  private static void lostPulses() {
    Due.sentence("Promise 32", "Returns the number of numbered pulses that were lost.");
    TypeWheelTelegraph x = sendingA("lose 1;lose 1;lose 3;lose 9999;");
    int[] times = {3, 4, 12, 17, 18};
    int[] lost = {0, 1, 1, 1, 2};
    for (int i = 0; i < times.length; i++) {
      x.run(times[i] - x.time());
      Due.equal("lostPulses() at " + times[i], x.lostPulses(), lost[i]);
    }
  }

  private static void prints() {
    Due.sentence("Promise 33", "Returns the number of positions that an office printed.");
    TypeWheelTelegraph x = sendingA("lose 2;");
    int[] times = {4, 5, 13, 18, 19};
    int[] prints = {0, 1, 1, 1, 2};
    for (int i = 0; i < times.length; i++) {
      x.run(times[i] - x.time());
      Due.equal("prints(1) at " + times[i], x.prints(1), prints[i]);
      Due.equal("prints(0)", x.prints(0), 0);
    }
  }

  private static void misprints() {
    Due.sentence("Promise 34", "Returns the number of misprints of an office.");
    TypeWheelTelegraph x = sendingA("");
    x.nudge(1, 499);
    x.run(5);
    Due.equal("misprints(1) by 499", x.misprints(1), 0);
    x.undo();
    x.nudge(1, 1);
    x.run(5);
    Due.equal("misprints(1) by 500", x.misprints(1), 1);
    Due.equal("misprints(0)", x.misprints(0), 0);
  }

  private static void worstOffset() {
    Due.sentence(
        "Promise 35",
        "Returns the greatest absolute offset at a print of an office; 0 if it never printed.");
    int[][] cases = {{0, 0}, {1, 1}, {-1, 1}, {499, 499}, {500, 500}, {-500, 500}, {-501, 499}};
    for (int[] one : cases) {
      TypeWheelTelegraph x = sendingA("correct 0;");
      x.nudge(1, one[0]);
      x.run(4);
      Due.equal("worstOffset(1) before a print", x.worstOffset(1), 0);
      x.run(1);
      Due.equal("worstOffset(1) by " + one[0], x.worstOffset(1), one[1]);
      Due.equal("worstOffset(0)", x.worstOffset(0), 0);
      x.nudge(1, -one[0]);
      x.run(8);
      Due.equal("worstOffset(1): a smaller one", x.worstOffset(1), one[1]);
    }
    TypeWheelTelegraph x = sendingA("correct 0;");
    x.nudge(1, 7);
    x.run(5);
    x.nudge(1, -15);
    x.run(8);
    Due.equal("worstOffset(1): a greater one below", x.worstOffset(1), 8);
  }

  private static void meanOffset() {
    Due.sentence(
        "Promise 36",
        "Returns the sum of the offsets at all prints of an office, divided by their number as"
            + " doubles; 0.0 if it never printed.");
    TypeWheelTelegraph x = sendingA("correct 0;");
    Due.equal("meanOffset(1)", x.meanOffset(1), 0.0);
    Due.equal("meanOffset(0)", x.meanOffset(0), 0.0);
    x.nudge(1, -500);
    x.run(5);
    Due.equal("meanOffset(1)", x.meanOffset(1), -500.0);
    x.nudge(1, 999);
    x.run(8);
    Due.equal("meanOffset(1) by -500 499", x.meanOffset(1), -0.5);
    x.run(6);
    Due.equal("meanOffset(1) by -500 499 499", x.meanOffset(1), 498.0 / 3.0);
    x = sendingA("correct 0;");
    x.run(13);
    x.nudge(1, 1);
    x.run(6);
    Due.equal("meanOffset(1) by 0 0 1", x.meanOffset(1), 1.0 / 3.0);
    Due.equal("meanOffset(0)", x.meanOffset(0), 0.0);
  }

  private static void eventCount() {
    Due.sentence("Promise 37", "Returns the number of events that are kept.");
    Due.equal("eventCount() of a new object", new TypeWheelTelegraph().eventCount(), 0);
    TypeWheelTelegraph x = sendingA("");
    x.run(18);
    Due.equal("eventCount() before the check", x.eventCount(), 0);
    x.run(1);
    Due.equal("eventCount() after the check", x.eventCount(), 1);
    x.run(1);
    Due.equal("eventCount() at the end", x.eventCount(), 2);
  }

  private static void eventIndex() {
    Due.sentence("Promise 38", "- `index`: 0 for the oldest event that is kept");
    TypeWheelTelegraph x = sendingA("");
    x.run(30);
    Due.equal("event(0, 0)", x.event(0, 0), 19);
    Due.equal("event(1, 0)", x.event(1, 0), 20);
    Due.sentence("Promise 38", "Throws `IndexOutOfBoundsException` if there is no such event");
    for (int wrong : new int[] {-1, 2, 40, Integer.MIN_VALUE, Integer.MAX_VALUE}) {
      Twins.refuse(WatchBoundaryTest::done, NO_INDEX, "event", wrong, 0);
      Twins.refuse(WatchBoundaryTest::done, NO_INDEX, "event", wrong, 3);
      Twins.refuse(WatchBoundaryTest::done, NO_INDEX, "event", wrong, -1);
    }
    Twins.refuse(TypeWheelTelegraph::new, NO_INDEX, "event", 0, 0);
  }

  private static TypeWheelTelegraph done() {
    TypeWheelTelegraph x = sendingA("");
    x.run(30);
    return x;
  }

  private static void eventWhat() {
    Due.sentence("Promise 38", "- `what`: 0 for its time, 1 for its code, 2 for its value");
    TypeWheelTelegraph x = sendingA("");
    x.run(30);
    Due.equal("event(0, 0)", x.event(0, 0), 19);
    Due.equal("event(0, 1)", x.event(0, 1), 1);
    Due.equal("event(0, 2)", x.event(0, 2), 1);
    Due.sentence("Promise 38", "Throws `IllegalArgumentException` if what is not 0 to 2");
    for (int wrong : new int[] {-1, 3, Integer.MIN_VALUE, Integer.MAX_VALUE}) {
      Twins.refuse(WatchBoundaryTest::done, NO_VALUE, "event", 0, wrong);
      Twins.refuse(WatchBoundaryTest::done, NO_VALUE, "event", 1, wrong);
    }
  }

  private static void latestForty() {
    Due.sentence("EVENTS", "The latest 40 events are kept, each with its time, a code and a value");
    TypeWheelTelegraph x = Sample.of(WHEELS + "message 1 a;");
    for (int i = 1; i <= 82; i++) {
      x.start(1);
      x.breakIn();
      x.run(1);
      if (i == 1 || i >= 39 && i <= 42 || i >= 80) {
        int kept = Math.min(i, 40);
        Due.equal("eventCount() after " + i, x.eventCount(), kept);
        Due.equal("the oldest that is kept", x.event(0, 0), i - kept + 1);
        Due.equal("its code", x.event(0, 1), 5);
        Due.equal("its value", x.event(0, 2), 0);
        Due.equal("the latest", x.event(kept - 1, 0), i);
        String behind = Calls.answer(x, "event", kept, 0);
        Due.equal("the one behind it", behind, "throws.IndexOutOfBoundsException");
      }
    }
    // Two events of one tick are two of the forty.
    x = Sample.sending(WHEELS + "message 0 ///////////;retries 9;guard 1;");
    Sample.pass(x, 3000);
    Due.equal("eventCount()", x.eventCount(), 40);
    Due.equal("the last code", x.event(39, 1), 6);
    Due.equal("the last code but one", x.event(38, 1), 4);
    Due.equal("their times", x.event(39, 0), x.event(38, 0));
  }

  private static void eventValues() {
    Due.sentence(
        "EVENTS",
        "1 a line was good (value: its number of characters), 2 a line was bad (value: the count),"
            + " 3 a line is repeated (value: its number), 4 a line is given up (value: its"
            + " number), 5 a break arrived (value: the number of the line that was being sent), 6"
            + " a transmission ended because all lines are done (value: the office).");
    // The first line is empty; the second one is sent by 1 3 1 4, and its 3 is lost each time.
    String text = WHEELS + "message 0 /1/ab;retries 1;guard 50;lose 4;lose 8;";
    TypeWheelTelegraph x = Sample.sending(text);
    x.runUntilDone(500);
    String lost = "45,2,1 46,3,1 69,2,1 70,4,1";
    Due.equal("events", Sample.events(x), "17,1,0 " + lost + " 93,1,2 94,6,0");
    // A break in each line, and the end of the transmission of office 1.
    for (int line = 0; line < 3; line++) {
      x = Sample.of("wheel 6;office 5500 500;office 0 500;message 1 //;");
      x.start(1);
      x.run(1 + 12 * line + (line == 0 ? 0 : 6));
      x.breakIn();
      x.run(1);
      int last = x.eventCount() - 1;
      Due.equal("the code", x.event(last, 1), 5);
      Due.equal("the number of the broken line", x.event(last, 2), line);
      x.start(1);
      x.runUntilDone(100);
      Due.equal("the code", x.event(x.eventCount() - 1, 1), 6);
      Due.equal("the office", x.event(x.eventCount() - 1, 2), 1);
    }
  }

  private static void eventSides() {
    Due.sentence(
        "EVENTS",
        "Events 1 and 2 occur when the receiver has checked the line, the others at the sender.");
    // By the delay 5 the check of 18 is checked at 23, and the answer comes at 28.
    String text = WHEELS + "message 0 a;delay 5;guard 50;retries 1;";
    TypeWheelTelegraph x = Sample.sendingInStep(text);
    x.run(22);
    Due.equal("eventCount()", x.eventCount(), 0);
    x.run(5);
    Due.equal("events", Sample.events(x), "23,1,1");
    x.run(1);
    Due.equal("events", Sample.events(x), "23,1,1 28,6,0");
    x = Sample.sendingInStep(text + "lose 1;");
    x.run(27);
    Due.equal("events", Sample.events(x), "23,2,0");
    x.run(1);
    Due.equal("events", Sample.events(x), "23,2,0 28,3,0");
    // It is repeated from 28 on, where the wheel passes 2 in part (c).
    x.run(1);
    x.breakIn();
    x.run(4);
    Due.equal("eventCount()", x.eventCount(), 2);
    x.run(1);
    Due.equal("events", Sample.events(x), "23,2,0 28,3,0 34,5,0");
  }
}
