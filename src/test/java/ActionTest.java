import java.util.ArrayDeque;
import java.util.Deque;

/** Promises 39 to 47, and the section ACTIONS AND EXCEPTIONS. */
public final class ActionTest {
  private static final Class<IndexOutOfBoundsException> NO_INDEX = IndexOutOfBoundsException.class;
  private static final Class<IllegalArgumentException> NO_VALUE = IllegalArgumentException.class;
  private static final Class<IllegalStateException> NO_STATE = IllegalStateException.class;

  public static void main(String[] args) {
    run();
    timeLimit();
    runUntilDone();
    start();
    breakIn();
    setRate();
    nudge();
    setCorrection();
    lose();
    loseManyTimes();
    undo();
    undoTen();
    whatUndoLeaves();
    Due.end("ActionTest");
  }

  private static void run() {
    TypeWheelTelegraph x = Sample.sending(Sample.IN_STEP + "lose 2;");
    Due.equal("run(3)", x.run(3), 0);
    Due.equal("run(1)", x.run(1), 1);
    Due.equal("run(8), a lost pulse counts", x.run(8), 2);
    Due.thrown("run(0)", NO_VALUE, x, () -> x.run(0));
    Due.thrown("run(-5)", NO_VALUE, x, () -> x.run(-5));
    Due.thrown("run(2001)", NO_VALUE, x, () -> x.run(2001));
    Due.equal("time()", x.time(), 12);
    x.run(2000);
    Due.equal("time()", x.time(), 2012);
  }

  private static void timeLimit() {
    TypeWheelTelegraph x = new TypeWheelTelegraph();
    for (int i = 0; i < 49; i++) {
      x.run(2000);
    }
    x.run(1999);
    Due.equal("time()", x.time(), 99999);
    Due.thrown("run(2)", NO_STATE, x, () -> x.run(2));
    Due.thrown("runUntilDone(2)", NO_STATE, x, () -> x.runUntilDone(2));
    Due.equal("runUntilDone(1)", x.runUntilDone(1), 0);
    Due.equal("run(1)", x.run(1), 0);
    Due.equal("time()", x.time(), 100000);
    Due.thrown("run(1)", NO_STATE, x, () -> x.run(1));
    Due.thrown("run(2001): the argument first", NO_VALUE, x, () -> x.run(2001));
    Due.thrown("runUntilDone(1)", NO_STATE, x, () -> x.runUntilDone(1));
    Due.thrown("runUntilDone(0)", NO_VALUE, x, () -> x.runUntilDone(0));
    Due.equal("misprintsIn(2000)", x.misprintsIn(2000), 0);
    Due.equal("ticksUntilDone(5000)", x.ticksUntilDone(5000), 0);
    Due.equal("undo()", x.undo(), 9);
    Due.equal("time()", x.time(), 99999);
  }

  private static void runUntilDone() {
    TypeWheelTelegraph x = Sample.of(Sample.IN_STEP);
    Due.equal("runUntilDone(5000) without a sender", x.runUntilDone(5000), 0);
    Due.equal("time()", x.time(), 0);
    Due.equal("undo(): it was recorded", x.undo(), 0);
    x.start(0);
    Due.thrown("runUntilDone(0)", NO_VALUE, x, () -> x.runUntilDone(0));
    Due.thrown("runUntilDone(5001)", NO_VALUE, x, () -> x.runUntilDone(5001));
    Due.equal("runUntilDone(45)", x.runUntilDone(45), 45);
    Due.equal("sender()", x.sender(), 0);
    Due.equal("runUntilDone(5000)", x.runUntilDone(5000), 1);
    Due.equal("time()", x.time(), 46);
  }

  private static void start() {
    TypeWheelTelegraph x = Sample.of(Sample.IN_STEP + "message 1 a;");
    Due.thrown("start(2)", NO_INDEX, x, () -> x.start(2));
    Due.thrown("start(-1)", NO_INDEX, x, () -> x.start(-1));
    Due.equal("start(0)", x.start(0), 0);
    Due.thrown("start(0)", NO_STATE, x, () -> x.start(0));
    Due.thrown("start(1)", NO_STATE, x, () -> x.start(1));
    Due.thrown("start(2): the office first", NO_INDEX, x, () -> x.start(2));
    x.run(30);
    x.breakIn();
    x.run(1);
    Due.equal("start(0) with the first line that is not done", x.start(0), 1);
    x.runUntilDone(100);
    Due.thrown("start(0), all lines done", NO_STATE, x, () -> x.start(0));
    Due.equal("start(1)", x.start(1), 0);
    Due.equal("sender()", x.sender(), 1);
    TypeWheelTelegraph y = new TypeWheelTelegraph();
    Due.thrown("start(0) without lines", NO_STATE, y, () -> y.start(0));
  }

  private static void breakIn() {
    TypeWheelTelegraph x = Sample.of(Sample.IN_STEP + "delay 50;");
    Due.thrown("breakIn()", NO_STATE, x, x::breakIn);
    x.start(0);
    x.run(2);
    Due.equal("breakIn()", x.breakIn(), 52);
    Due.equal("underWay()", x.underWay(), 1);
    x.run(49);
    Due.equal("sender()", x.sender(), 0);
    x.run(1);
    Due.equal("sender()", x.sender(), -1);
    Due.thrown("breakIn()", NO_STATE, x, x::breakIn);
    TypeWheelTelegraph many = Sample.sending(Sample.IN_STEP + "delay 50;");
    for (int i = 1; i <= 500; i++) {
      many.breakIn();
    }
    Due.equal("underWay()", many.underWay(), 500);
  }

  private static void setRate() {
    TypeWheelTelegraph x = Sample.of("office 0 200;");
    Due.equal("setRate(0, 10)", x.setRate(0, 10), 200);
    Due.equal("setRate(0, 999)", x.setRate(0, 999), 10);
    Due.equal("setRate(1, 11)", x.setRate(1, 11), 100);
    Due.equal("rate(0)", x.rate(0), 999);
    Due.equal("rate(1)", x.rate(1), 11);
    x.run(2);
    Due.equal("phase(0)", x.phase(0), 1998);
    Due.equal("phase(1)", x.phase(1), 22);
    Due.thrown("setRate(0, 9)", NO_VALUE, x, () -> x.setRate(0, 9));
    Due.thrown("setRate(1, 1000)", NO_VALUE, x, () -> x.setRate(1, 1000));
    Due.thrown("setRate(2, 100)", NO_INDEX, x, () -> x.setRate(2, 100));
    Due.thrown("setRate(-1, 9): the office first", NO_INDEX, x, () -> x.setRate(-1, 9));
  }

  private static void nudge() {
    TypeWheelTelegraph x = Sample.of("wheel 6;office 100 10;office 5900 10;");
    Due.equal("nudge(0, -14000)", x.nudge(0, -14000), 4100);
    Due.equal("nudge(0, 14000)", x.nudge(0, 14000), 100);
    Due.equal("nudge(0, -101)", x.nudge(0, -101), 5999);
    Due.equal("nudge(1, 100)", x.nudge(1, 100), 0);
    Due.equal("phase(1)", x.phase(1), 0);
    Due.thrown("nudge(0, -14001)", NO_VALUE, x, () -> x.nudge(0, -14001));
    Due.thrown("nudge(0, 14001)", NO_VALUE, x, () -> x.nudge(0, 14001));
    Due.thrown("nudge(2, 0)", NO_INDEX, x, () -> x.nudge(2, 0));
    Due.thrown("nudge(-1, 15000): the office first", NO_INDEX, x, () -> x.nudge(-1, 15000));
  }

  private static void setCorrection() {
    TypeWheelTelegraph x = Sample.of("correct 33;");
    Due.equal("setCorrection(0)", x.setCorrection(0), 33);
    Due.equal("setCorrection(500)", x.setCorrection(500), 0);
    Due.thrown("setCorrection(501)", NO_VALUE, x, () -> x.setCorrection(501));
    Due.thrown("setCorrection(-1)", NO_VALUE, x, () -> x.setCorrection(-1));
    Due.equal("setCorrection(500)", x.setCorrection(500), 500);
    TypeWheelTelegraph y = Sample.sending(Sample.IN_STEP.replace("office 5500", "office 5620"));
    y.setCorrection(30);
    y.run(5);
    Due.equal("phase(1)", y.phase(1), 2090);
  }

  private static void lose() {
    TypeWheelTelegraph x = Sample.sending(Sample.IN_STEP);
    x.run(4);
    Due.equal("lose(1)", x.lose(1), 2);
    Due.equal("lose(500)", x.lose(500), 501);
    Due.thrown("lose(0)", NO_VALUE, x, () -> x.lose(0));
    Due.thrown("lose(501)", NO_VALUE, x, () -> x.lose(501));
    x.run(2);
    Due.equal("lostPulses()", x.lostPulses(), 0);
    Due.equal("prints(1): the pulse under way is not lost", x.prints(1), 1);
    x.run(4);
    Due.equal("lostPulses()", x.lostPulses(), 1);
    Due.equal("lose(2)", x.lose(2), 4);
    x.run(10);
    Due.equal("lostPulses()", x.lostPulses(), 2);
  }

  private static void loseManyTimes() {
    TypeWheelTelegraph x = Sample.sending(Sample.IN_STEP + "lose 1;lose 1;lose 9;");
    for (int i = 0; i < 8; i++) {
      x.lose(1);
    }
    x.run(12);
    for (int i = 0; i < 9; i++) {
      x.lose(500);
    }
    Due.thrown("lose(1), named 20 times", NO_STATE, x, () -> x.lose(1));
    Due.thrown("lose(0): the argument first", NO_VALUE, x, () -> x.lose(0));
    x.undo();
    Due.equal("lose(3)", x.lose(3), 6);
    Due.thrown("lose(1), named 20 times", NO_STATE, x, () -> x.lose(1));
    Due.equal("lostPulses()", x.lostPulses(), 1);
  }

  private static void undo() {
    TypeWheelTelegraph x = Sample.of(Sample.IN_STEP.replace("5500", "5620") + "lose 3;");
    Due.thrown("undo()", NO_STATE, x, x::undo);
    undoAll(x, "start 0", "run 15", "breakIn", "run 5", "setRate 1 490", "nudge 0 40");
    undoAll(x, "setCorrection 5", "lose 2", "start 0", "run 13", "nudge 1 300", "run 30");
    undoAll(x, "start 0", "run 300", "runUntilDone 400", "lose 1");
    // From a repeated line on, which waits for its answer, and with lost pulses and misprints.
    make(x, "start 0");
    make(x, "run 90");
    Due.equal("repetition()", x.repetition(), 1);
    undoAll(x, "nudge 1 1000", "run 6", "breakIn", "runUntilDone 400");
    make(x, "run 2");
    Due.equal("isWaiting()", x.isWaiting(), true);
    undoAll(x, "run 1", "breakIn", "run 70");
    Due.equal("setCorrection(0)", x.setCorrection(0), 100);
    TypeWheelTelegraph y = Sample.sending(Sample.IN_STEP + "lose 4;");
    make(y, "run 40");
    undoAll(y, "run 100");
  }

  /** Makes the calls, then undoes them one by one; runs on after each to see what is hidden. */
  private static void undoAll(TypeWheelTelegraph x, String... calls) {
    Deque<String> states = new ArrayDeque<>();
    for (String call : calls) {
      states.push(watchOn(x));
      make(x, call);
    }
    for (int i = calls.length - 1; i >= 0; i--) {
      x.undo();
      Due.equal("the state before " + calls[i], watchOn(x), states.pop());
    }
  }

  /** What is seen now, and in 150 ticks; they are undone, so that nothing has changed. */
  private static String watchOn(TypeWheelTelegraph x) {
    String now = Calls.watch(x);
    x.run(150);
    String later = Calls.watch(x);
    x.undo();
    return now + later;
  }

  private static void make(TypeWheelTelegraph x, String words) {
    String answer = Calls.ask(x, words);
    Due.equal(words + " answers", answer.startsWith("throws"), false);
  }

  private static void undoTen() {
    TypeWheelTelegraph x = Sample.of(Sample.IN_STEP);
    for (int i = 1; i <= 25; i++) {
      x.nudge(0, 1);
    }
    Due.thrown("nudge(0, 20000) is not recorded", NO_VALUE, x, () -> x.nudge(0, 20000));
    Due.thrown("breakIn() is not recorded", NO_STATE, x, x::breakIn);
    x.misprintsIn(10);
    x.nudge(0, 0);
    for (int left = 9; left >= 0; left--) {
      Due.equal("undo()", x.undo(), left);
      Due.equal("phase(0)", x.phase(0), left + 16);
    }
    Due.thrown("undo()", NO_STATE, x, x::undo);
    x.nudge(0, 5);
    x.nudge(0, 5);
    Due.equal("undo()", x.undo(), 1);
    Due.equal("phase(0)", x.phase(0), 21);
    x.nudge(0, 3);
    Due.equal("undo()", x.undo(), 1);
    Due.equal("undo()", x.undo(), 0);
    Due.equal("phase(0)", x.phase(0), 16);
  }

  private static void whatUndoLeaves() {
    TypeWheelTelegraph x = Sample.of(Sample.IN_STEP);
    x.start(0);
    x.append(0x64656c61, 0x7920333b, 0x20202020, 0x20202020, 0x20202020);
    int length = x.format(0);
    x.undo();
    Due.equal("the formatted text", x.formattedCharacter(length - 1), '0');
    Due.equal("append: the buffer", x.append(0, 0, 0, 0, 0), 40);
    x.truncate(20);
    Due.equal("load()", x.load(), 0);
    Due.equal("lead()", x.lead(), 300);
  }
}
