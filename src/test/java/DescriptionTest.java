/** The sentences of the document's opening and description that name no boundary. */
public final class DescriptionTest {
  private static final String WHAT = "What it is";
  private static final String TEXT = "INPUT TEXT";
  private static final String TICK = "ONE TICK";
  /** A wheel turns once in 12 ticks, and passes position p in tick 2 * p of each circle. */
  private static final String WHEELS = "wheel 6;office 0 500;office 5500 500;";

  public static void main(String[] args) {
    pulsesAndPrints();
    correctedByEachPrint();
    twoShifts();
    checkedAndRepeated();
    tokens();
    cannotBeContinued();
    sequence();
    sendingOrWaiting();
    partsOfTheReceiver();
    phasesAdvanceFirst();
    arrivals();
    printedPosition();
    interpreted();
    answerBeforeNextPulse();
    nextPosition();
    failureBehindTheNextPulse();
    clearedBehindArrivals();
    constants();
    Due.end("DescriptionTest");
  }

  private static void pulsesAndPrints() {
    Due.sentence(
        WHAT,
        "A simulator of a printing telegraph with synchronous type wheels, in the manner of the"
            + " Hughes telegraph: two offices have type wheels that turn nearly in step; an office"
            + " sends a character by a pulse at the moment at which its wheel passes the"
            + " character, and the other office prints the character at which its own wheel"
            + " stands then.");
    // The wheel of office 0 passes 3, the position of b, at 6; the pulse arrives at 7.
    printsOfB(0, "b");
    printsOfB(1000, "c");
    printsOfB(2000, "d");
    printsOfB(-1000, "a");
  }

  private static void printsOfB(int outOfStep, String printed) {
    TypeWheelTelegraph x = Sample.of(WHEELS + "message 0 b;");
    x.nudge(1, outOfStep);
    x.start(0);
    Due.equal("pulses before the wheel passes b", x.run(5), 0);
    Due.equal("pulses when it passes b", x.run(1), 1);
    Due.equal("phase(0) when it passes b", x.phase(0), 3000);
    Due.equal("what is printed before the arrival", Sample.buffer(x), "");
    x.run(1);
    Due.equal("what is printed " + outOfStep + " out of step", Sample.buffer(x), printed);
  }

  private static void correctedByEachPrint() {
    Due.sentence(WHAT, "Each print corrects the phase of the printing wheel.");
    // The prints are at 7, 13 and 19; each time the wheel is turned forward by hand before.
    TypeWheelTelegraph x = Sample.sending(WHEELS + "message 0 b;");
    for (int print = 7; print <= 19; print += 6) {
      x.run(print - 1 - x.time());
      x.nudge(1, 150);
      x.run(1);
      Due.equal("phase(1) after the print at " + print, x.phase(1), print == 13 ? 0 : 3000);
    }
    Due.equal("phase(0) is not corrected", x.phase(0), 3500);
    Due.equal("meanOffset(1)", x.meanOffset(1), 150.0);
  }

  private static void twoShifts() {
    Due.sentence(WHAT, "Letters and figures share the wheel by two shifts.");
    TypeWheelTelegraph x = Sample.sending(WHEELS + "message 0 b1b;");
    Due.equal("the pulses of b1b", Sample.pulses(x, 0, 0), "3 1 3 0 3 0 3");
    x.runUntilDone(200);
    Due.equal("the received text", Sample.received(x, 1), "b1b/");
  }

  private static void checkedAndRepeated() {
    Due.sentence(
        WHAT,
        "Lines of a message are checked by a count, acknowledged, and repeated when they fail;"
            + " the printing office can break in.");
    // The line is sent by 3 3 0 4 at 6, 18, 24, 32, and again at 42, 54, 60, 68.
    TypeWheelTelegraph x = Sample.sending(WHEELS + "message 0 bb;lose 2;");
    x.runUntilDone(200);
    Due.equal("the events", Sample.events(x), "33,2,1 34,3,0 69,1,2 70,6,0");
    Due.equal("the received text", Sample.received(x, 1), "bb/");
    Due.equal("linesDone(0)", x.linesDone(0), 1);
    x = Sample.sending(WHEELS + "message 0 bb;");
    x.run(20);
    x.breakIn();
    x.run(1);
    Due.equal("the events", Sample.events(x), "21,5,0");
    Due.equal("sender()", x.sender(), -1);
    Due.equal("linesDone(0)", x.linesDone(0), 0);
  }

  private static void tokens() {
    Due.sentence(
        TEXT,
        "Tokens are words (1 to 12 letters a to z), numbers (1 to 5 digits) and the characters ;"
            + " and /.");
    for (int sign = 0; sign < 256; sign++) {
      String text = "message 0 c " + (char) sign + " d;";
      boolean isWord = sign >= 'a' && sign <= 'z';
      boolean isNumber = sign >= '0' && sign <= '9';
      if (isWord || isNumber || sign == ' ' || sign == '\n') {
        Loads.accepted(text, 1);
      } else if (sign == '/') {
        Loads.accepted(text, 2);
      } else {
        Loads.refused(text, sign == ';' ? 14 : 12);
      }
    }
  }

  private static void cannotBeContinued() {
    Due.sentence(TEXT, "A token cannot be continued, too, if it is:");
    Loads.refused("retries 10;", 8);
    Loads.refused("retries 9;wheel 9;", 10);
    Loads.refused("office 0 10;".repeat(3), 24);
    Loads.refused("lose 1;".repeat(21), 140);
    Loads.refused("wheel 6;message 0 e;", 18);
    Loads.refused("message 0 abcdefghijkl abcdefghijkl abcdefg;", 36);
    Loads.refused("message 0 ////////////;", 21);
    Loads.refused("message 0 ///////////;message 0 a;", 30);
  }

  private static void sequence() {
    Due.sentence("LINES AND PULSES", "A line is sent by a sequence of positions.");
    TypeWheelTelegraph x = Sample.sending(WHEELS + "message 0 b1;");
    String due = Sample.pulses(x, 0, 0);
    Due.equal("the positions of b1", due, "3 1 3 1 5");
    StringBuilder printed = new StringBuilder();
    for (int prints = 0; prints < 5 && x.time() < 100; ) {
      x.run(1);
      if (x.prints(1) > prints) {
        prints++;
        printed.append(' ').append(x.facing(1));
      }
    }
    Due.equal("the positions that were printed", printed.toString(), " " + due);
  }

  private static void sendingOrWaiting() {
    Due.sentence(TICK, "The sender is sending or waiting.");
    // The line is sent at 6, 12, 18; the answer is there at 20.
    TypeWheelTelegraph x = Sample.sending(WHEELS + "message 0 b;");
    for (int time = 0; time < 20; time++) {
      Due.equal("sender() at " + time, x.sender(), 0);
      Due.equal("isWaiting() at " + time, x.isWaiting(), time >= 18);
      Due.equal("nextPulseIn() at " + time, x.nextPulseIn() == -1, time >= 18);
      x.run(1);
    }
    Due.equal("sender() at 20", x.sender(), -1);
    Due.equal("isWaiting() at 20", x.isWaiting(), false);
  }

  private static void partsOfTheReceiver() {
    Due.sentence(
        TICK,
        "The receiver has a line buffer, a count, a shift and a flag whether it expects a check.");
    // Of the line b1, sent by 3 1 3 1 5 at 6, 14, 18, 26, 34, each pulse changes one of them.
    TypeWheelTelegraph x = Sample.sending(WHEELS + "message 0 b1;");
    x.run(18);
    Due.equal("the buffer after 3 and 1", Sample.buffer(x), "b");
    x.run(16);
    Due.equal("the buffer after 3 and 1 again", Sample.buffer(x), "b1");
    x.run(1);
    Due.equal("the buffer after 5", Sample.buffer(x), "");
    Due.equal("the events", Sample.events(x), "35,1,2");
    x = Sample.sending(WHEELS + "message 0 b1;lose 1;");
    x.run(35);
    Due.equal("the count without the first pulse", Sample.events(x), "35,2,2");
  }

  private static void phasesAdvanceFirst() {
    Due.sentence(
        TICK, "A tick consists of these parts: (a) The time increases by 1. Both phases advance.");
    // The pulse of b is printed at 7, where the wheel of office 1 has come to 2900.
    TypeWheelTelegraph x = Sample.sending(WHEELS.replace("5500", "5400") + "message 0 b;");
    x.run(6);
    Due.equal("facing(1) before the tick", x.facing(1), 2);
    x.run(1);
    Due.equal("what is printed in the tick", Sample.buffer(x), "b");
    Due.equal("worstOffset(1)", x.worstOffset(1), 100);
  }

  private static void arrivals() {
    Due.sentence(
        TICK,
        "(b) All that arrives at this time is processed, in the order in which it was sent."
            + " (What is sent at time t arrives at time t + delay.)");
    // The pulse of 6 and the break behind it arrive in the same tick; the other break is removed.
    TypeWheelTelegraph x = Sample.sendingInStep(WHEELS + "message 0 b;delay 9;");
    x.run(6);
    Due.equal("breakIn()", x.breakIn(), 15);
    Due.equal("breakIn() again", x.breakIn(), 15);
    x.run(8);
    Due.equal("prints(1) before the arrival", x.prints(1), 0);
    Due.equal("sender() before the arrival", x.sender(), 0);
    x.run(1);
    Due.equal("prints(1) at the arrival", x.prints(1), 1);
    Due.equal("the events", Sample.events(x), "15,5,0");
    Due.equal("underWay()", x.underWay(), 0);
  }

  private static void printedPosition() {
    Due.sentence(
        TICK,
        "A numbered pulse arrives at the receiver: let k be (phase + 500) / 1000, rounded down.");
    // Until the print at 7 the wheel of office 1 turns by 3500.
    printedAt(4999, "a", 499);
    printedAt(5000, "b", -500);
    printedAt(5999, "b", 499);
    printedAt(0, "c", -500);
    printedAt(999, "c", 499);
    printedAt(1000, "d", -500);
  }

  private static void printedAt(int phase, String printed, int offset) {
    TypeWheelTelegraph x = Sample.sending(WHEELS.replace("5500", "" + phase) + "message 0 b;");
    x.run(7);
    Due.equal("what is printed from " + phase, Sample.buffer(x), printed);
    Due.equal("the offset from " + phase, x.meanOffset(1), (double) offset);
  }

  private static void interpreted() {
    Due.sentence(
        TICK, "Then the receiver interprets the printed position: If it expects a check:");
    // The line is sent by 3 3 0 4 at 6, 18, 24, 32; the check is printed at 33.
    checked("", 0, "33,1,2", "bb/");
    checked("", 1000, "33,2,2", "");
    // One b is lost, but the position that is printed is the one for a count of 1.
    checked("lose 1;", 0, "33,2,1", "");
    checked("lose 1;", -1000, "33,1,1", "b/");
  }

  private static void checked(String loss, int outOfStep, String events, String received) {
    TypeWheelTelegraph x = Sample.sending(WHEELS + "message 0 bb;" + loss);
    x.run(25);
    x.nudge(1, outOfStep);
    x.run(8);
    Due.equal("the events, " + outOfStep + " out of step", Sample.events(x), events);
    Due.equal("the received text", Sample.received(x, 1), received);
    Due.equal("the buffer", Sample.buffer(x), "");
  }

  private static void answerBeforeNextPulse() {
    Due.sentence(TICK, "(b) All that arrives at this time is processed");
    // The empty line is sent by 0 2 at 12, 16; its answer is there at 18, where 3 is passed.
    TypeWheelTelegraph x = Sample.sending(WHEELS + "message 0 /b;");
    x.run(17);
    Due.equal("isWaiting() at 17", x.isWaiting(), true);
    Due.equal("the pulses of the tick 18", x.run(1), 1);
    Due.equal("linesDone(0)", x.linesDone(0), 1);
    Due.equal("sentOfLine()", x.sentOfLine(), 1);
  }

  private static void nextPosition() {
    Due.sentence(
        TICK,
        "(c) If there is a sender that is sending: let p be the next position of its line. If its"
            + " wheel has passed the beginning of p in this tick, that is, if (phase - 1000 * p)"
            + " modulo (1000 * N) is less than its rate, it sends p.");
    Due.equal("pulses without a sender", Sample.of(WHEELS + "message 0 b;").run(2000), 0);
    // 3, 0 and 3 are passed at 6, 12, 18; nothing is sent while the sender is waiting.
    TypeWheelTelegraph x = Sample.sending(WHEELS + "message 0 b;lose 3;");
    StringBuilder sent = new StringBuilder();
    for (int time = 1; time <= 100; time++) {
      if (x.run(1) > 0) {
        sent.append(x.time()).append(' ');
      }
    }
    Due.equal("the times of the pulses", sent.toString(), "6 12 18 ");
    Due.equal("sentOfLine()", x.sentOfLine(), 3);
    Due.equal("isWaiting()", x.isWaiting(), true);
  }

  private static void failureBehindTheNextPulse() {
    Due.sentence(
        TICK,
        "(d) If there is a sender that has been waiting until this time, the line has failed.");
    // The sender waits until 18 + 2 + 10; 3 is passed in that tick, but was not looked for yet.
    TypeWheelTelegraph x = Sample.sending(WHEELS + "message 0 b;lose 3;guard 10;");
    x.run(29);
    Due.equal("isWaiting() at 29", x.isWaiting(), true);
    Due.equal("the pulses of the tick 30", x.run(1), 0);
    Due.equal("the events", Sample.events(x), "30,3,0");
    Due.equal("isWaiting() at 30", x.isWaiting(), false);
    Due.equal("nextPulseIn() at 30", x.nextPulseIn(), 12);
  }

  private static void clearedBehindArrivals() {
    Due.sentence(
        TICK,
        "(e) If at least guard ticks have passed since the latest numbered pulse arrived at the"
            + " receiver (or since it became the receiver), the receiver is cleared.");
    // The two a are printed at 5 and 17: the second one comes before the guard is asked for.
    TypeWheelTelegraph x = Sample.sending(WHEELS + "message 0 aa;guard 12;");
    x.run(17);
    Due.equal("the buffer at 17", Sample.buffer(x), "aa");
    x = Sample.sending(WHEELS + "message 0 aa;guard 11;");
    x.run(15);
    Due.equal("the buffer at 15", Sample.buffer(x), "a");
    x.run(1);
    Due.equal("the buffer at 16", Sample.buffer(x), "");
    x.run(1);
    Due.equal("the buffer at 17", Sample.buffer(x), "a");
  }

  private static void constants() {
    Due.sentence(
        "ACTIONS AND EXCEPTIONS",
        "The constants:  - `NONE = -1`: The value -1, returned where there is no result.");
    TypeWheelTelegraph x = new TypeWheelTelegraph();
    Due.equal("NONE", TypeWheelTelegraph.NONE, -1);
    Due.equal("errorOffset()", x.errorOffset(), TypeWheelTelegraph.NONE);
    Due.equal("slowestLine(0)", x.slowestLine(0), TypeWheelTelegraph.NONE);
    Due.equal("sender()", x.sender(), TypeWheelTelegraph.NONE);
    Due.equal("nextPulseIn()", x.nextPulseIn(), TypeWheelTelegraph.NONE);
    x = Sample.sending(WHEELS + "message 0 b;");
    Due.equal("ticksUntilDone(1)", x.ticksUntilDone(1), TypeWheelTelegraph.NONE);
  }
}
