/** Promises 20 to 30, and the sections LINES AND PULSES and ONE TICK. */
public final class TransmissionTest {
  private static final Class<IndexOutOfBoundsException> NO_INDEX = IndexOutOfBoundsException.class;

  public static void main(String[] args) {
    noSender();
    goodTransmission();
    longerDelay();
    guardAndRetriesByDefault();
    nextPulse();
    nextLineInTheSameTick();
    figures();
    corrections();
    printAtTheEndOfTheCircle();
    lostCheck();
    repeatedLineAfterItsTime();
    givenUp();
    badLine();
    earlyAnswerIsIgnored();
    shiftsThatAreMisread();
    silenceClears();
    breaks();
    breakAndPulses();
    longTransmission();
    fullBuffer();
    fullReceivedText();
    otherOfficeSends();
    Due.end("TransmissionTest");
  }

  private static void noSender() {
    TypeWheelTelegraph x = Sample.of(Sample.IN_STEP);
    x.run(30);
    quiet(x);
    Due.equal("time()", x.time(), 30);
    Due.equal("pulses()", x.pulses(), 0);
  }

  private static void quiet(TypeWheelTelegraph x) {
    Due.equal("sender()", x.sender(), -1);
    Due.equal("isWaiting()", x.isWaiting(), false);
    Due.equal("sentOfLine()", x.sentOfLine(), 0);
    Due.equal("repetition()", x.repetition(), 0);
    Due.equal("underWay()", x.underWay(), 0);
    Due.equal("nextPulseIn()", x.nextPulseIn(), -1);
    Due.equal("silence()", x.silence(), 0);
    Due.equal("bufferLength()", x.bufferLength(), 0);
    Due.thrown("bufferCharacter(0)", NO_INDEX, x, () -> x.bufferCharacter(0));
  }

  private static void goodTransmission() {
    TypeWheelTelegraph x = Sample.sending(Sample.IN_STEP);
    step(x, 0, "0 false 0 0 4 0 ", "");
    x.run(3);
    step(x, 3, "0 false 0 0 1 3 ", "");
    x.run(1);
    step(x, 4, "0 false 1 1 6 4 ", "");
    x.run(1);
    step(x, 5, "0 false 1 0 5 0 a", "");
    x.run(7);
    step(x, 12, "0 false 3 1 8 1 ad", "");
    x.run(8);
    step(x, 20, "0 true 4 1 -1 7 ad", "");
    x.run(1);
    step(x, 21, "0 true 4 1 -1 0 ", "ad/");
    x.run(1);
    step(x, 22, "0 false 0 0 4 1 ", "ad/");
    x.run(23);
    step(x, 45, "0 true 4 1 -1 0 ", "ad/1/");
    x.run(1);
    step(x, 46, "-1 false 0 0 -1 0 ", "ad/1/");
    quiet(x);
    Due.equal("receivedLength(0)", x.receivedLength(0), 0);
    Due.thrown("receivedCharacter(1, 5)", NO_INDEX, x, () -> x.receivedCharacter(1, 5));
    Due.thrown("receivedCharacter(1, -1)", NO_INDEX, x, () -> x.receivedCharacter(1, -1));
    Due.thrown("receivedCharacter(0, 0)", NO_INDEX, x, () -> x.receivedCharacter(0, 0));
    Due.thrown("receivedCharacter(2, 0)", NO_INDEX, x, () -> x.receivedCharacter(2, 0));
    Due.thrown("receivedLength(2)", NO_INDEX, x, () -> x.receivedLength(2));
    Due.thrown("receivedLength(-1)", NO_INDEX, x, () -> x.receivedLength(-1));
    Due.equal("events", Sample.events(x), "21,1,2 45,1,1 46,6,0");
  }

  /** Sender, waiting, sent of the line, under way, next pulse, silence and the line buffer. */
  private static void step(TypeWheelTelegraph x, int time, String state, String received) {
    StringBuilder seen = new StringBuilder();
    seen.append(x.sender()).append(' ').append(x.isWaiting()).append(' ');
    seen.append(x.sentOfLine()).append(' ').append(x.underWay()).append(' ');
    seen.append(x.nextPulseIn()).append(' ').append(x.silence()).append(' ');
    Due.equal("the state at " + time, seen.append(Sample.buffer(x)), state);
    Due.equal("time()", x.time(), time);
    Due.equal("received at " + time, Sample.received(x, 1), received);
    int length = x.bufferLength();
    Due.thrown("bufferCharacter", NO_INDEX, x, () -> x.bufferCharacter(length));
    Due.thrown("bufferCharacter(-1)", NO_INDEX, x, () -> x.bufferCharacter(-1));
  }

  private static void longerDelay() {
    String text = Sample.IN_STEP.replace("5500", "4500") + "delay 3;";
    TypeWheelTelegraph x = Sample.sending(text);
    Due.equal("runUntilDone(500)", x.runUntilDone(500), 50);
    // The answer at 26 comes as the wheel passes the first position of the next line.
    Due.equal("events", Sample.events(x), "23,1,2 47,1,1 50,6,0");
    Due.equal("misprints(1)", x.misprints(1), 0);
    TypeWheelTelegraph y = Sample.sending(text + "lose 4;retries 0;");
    y.run(74);
    Due.equal("isWaiting() at 74", y.isWaiting(), true);
    y.run(2);
    Due.equal("events: at 20 + 6 + 50", Sample.events(y), "76,4,0");
  }

  private static void guardAndRetriesByDefault() {
    String text = "wheel 6;office 0 500;office 5500 500;message 0 ad;lose 4;lose 8;lose 12;";
    TypeWheelTelegraph x = Sample.sending(text);
    Due.equal("runUntilDone(5000)", x.runUntilDone(5000), 1870);
    // Each time 602 ticks after the check, which is sent 22 ticks after the line began again.
    Due.equal("events", Sample.events(x), "622,3,0 1246,3,0 1870,4,0 1870,6,0");
  }

  private static void nextPulse() {
    int[] phases = {1899, 1900, 1999, 2000, 2001, 27999, 0};
    int[] ticks = {2, 1, 1, 280, 280, 21, 20};
    for (int i = 0; i < phases.length; i++) {
      TypeWheelTelegraph x = Sample.sending("office " + phases[i] + " 100;message 0 a;");
      Due.equal("nextPulseIn() at " + phases[i], x.nextPulseIn(), ticks[i]);
      if (ticks[i] > 1) {
        Due.equal("run to the tick before", x.run(ticks[i] - 1), 0);
      }
      Due.equal("run(1)", x.run(1), 1);
    }
  }

  private static void nextLineInTheSameTick() {
    TypeWheelTelegraph x = Sample.sending(Sample.IN_STEP.replace("ad/1", "ad/d"));
    x.run(21);
    Due.equal("pulses()", x.pulses(), 4);
    x.run(1);
    Due.equal("pulses()", x.pulses(), 5);
    Due.equal("sentOfLine()", x.sentOfLine(), 1);
    Due.equal("linesDone(0)", x.linesDone(0), 1);
    Due.equal("underWay()", x.underWay(), 1);
  }

  private static void figures() {
    TypeWheelTelegraph x = Sample.sending(Sample.IN_STEP.replace("ad/1", "a12b3//0"));
    Due.equal("pulses", Sample.pulses(x, 0, 0), "2 1 3 4 0 3 1 5 1 2");
    Due.equal("runUntilDone(500)", x.runUntilDone(500) > 0, true);
    Due.equal("received", Sample.received(x, 1), "a12b3//0/");
    Due.equal("misprints(1)", x.misprints(1), 0);
    Due.equal("linesDone(0)", x.linesDone(0), 3);
    Due.equal("eventCount(): no line is repeated", x.eventCount(), 4);
  }

  private static void corrections() {
    correction("office 5620 500;", 100, "2020 120 120.0 0 a");
    correction("office 5620 500;", 120, "2000 120 120.0 0 a");
    correction("office 5620 500;", 0, "2120 120 120.0 0 a");
    correction("office 5380 500;", 100, "1980 120 -120.0 0 a");
    correction("office 5380 500;", 500, "2000 120 -120.0 0 a");
    correction("office 5999 500;", 100, "2399 499 499.0 0 a");
    correction("office 0 500;", 100, "2600 500 -500.0 1 b");
    correction("office 5000 500;", 500, "2000 500 -500.0 0 a");
    correction("office 4999 500;", 499, "1000 499 499.0 1 ");
  }

  /** The first pulse, of position 2, arrives at 5, when office 1 has turned by 2500. */
  private static void correction(String office, int limit, String state) {
    String text = Sample.IN_STEP.replace("office 5500 500;", office);
    TypeWheelTelegraph x = Sample.sending(text.replace("correct 100", "correct " + limit));
    x.run(5);
    StringBuilder seen = new StringBuilder();
    seen.append(x.phase(1)).append(' ').append(x.worstOffset(1)).append(' ');
    seen.append(x.meanOffset(1)).append(' ').append(x.misprints(1)).append(' ');
    Due.equal("print of " + office + limit, seen.append(Sample.buffer(x)), state);
    Due.equal("phase(0)", x.phase(0), 2500);
  }

  private static void printAtTheEndOfTheCircle() {
    // The empty line is sent by 0 2; its first pulse arrives at 13.
    String text = Sample.IN_STEP.replace("ad/1", "/").replace("5500", "5380");
    TypeWheelTelegraph x = Sample.sending(text);
    x.run(13);
    Due.equal("phase(1)", x.phase(1), 5980);
    Due.equal("misprints(1)", x.misprints(1), 0);
    x = Sample.sending(text.replace("correct 100", "correct 500"));
    x.run(13);
    Due.equal("phase(1)", x.phase(1), 0);
    Due.equal("meanOffset(1)", x.meanOffset(1), -120.0);
    x.run(4);
    Due.equal("received", Sample.received(x, 1), "/");
  }

  private static void lostCheck() {
    TypeWheelTelegraph x = Sample.sending(Sample.IN_STEP + "lose 4;");
    x.run(20);
    Due.equal("underWay()", x.underWay(), 0);
    Due.equal("isWaiting()", x.isWaiting(), true);
    Due.equal("lostPulses()", x.lostPulses(), 1);
    x.run(42);
    Due.equal("silence()", x.silence(), 49);
    Due.equal("buffer", Sample.buffer(x), "ad");
    x.run(1);
    Due.equal("silence()", x.silence(), 50);
    Due.equal("buffer after guard ticks", Sample.buffer(x), "");
    x.run(8);
    Due.equal("isWaiting() at 71", x.isWaiting(), true);
    x.run(1);
    Due.equal("isWaiting() at 72", x.isWaiting(), false);
    Due.equal("repetition()", x.repetition(), 1);
    Due.equal("sentOfLine()", x.sentOfLine(), 0);
    Due.equal("linesDone(0)", x.linesDone(0), 0);
    Due.equal("nextPulseIn()", x.nextPulseIn(), 4);
    x.runUntilDone(500);
    // Again 20 ticks for line 0, then 24 with its answer and the next line, and 2 for its answer.
    Due.equal("events", Sample.events(x), "72,3,0 93,1,2 117,1,1 118,6,0");
    Due.equal("received", Sample.received(x, 1), "ad/1/");
  }

  private static void repeatedLineAfterItsTime() {
    // The line fails at 76, just when the wheel passes its first position: part (c) is over then.
    TypeWheelTelegraph x = Sample.sending(Sample.IN_STEP + "lose 4;guard 54;");
    x.run(76);
    Due.equal("repetition()", x.repetition(), 1);
    Due.equal("pulses()", x.pulses(), 4);
    Due.equal("nextPulseIn()", x.nextPulseIn(), 12);
    x.run(12);
    Due.equal("pulses()", x.pulses(), 5);
    // A bad answer at 34 comes before part (c): the first position is sent in this tick already.
    x = Sample.sending(Sample.IN_STEP.replace("ad/1", "dd") + "lose 1;");
    x.run(34);
    Due.equal("events", Sample.events(x), "33,2,1 34,3,0");
    Due.equal("pulses()", x.pulses(), 5);
    Due.equal("sentOfLine()", x.sentOfLine(), 1);
  }

  private static void givenUp() {
    TypeWheelTelegraph x = Sample.sending(Sample.IN_STEP + "lose 4;lose 8;");
    x.run(143);
    Due.equal("repetition()", x.repetition(), 1);
    x.run(1);
    Due.equal("linesDone(0)", x.linesDone(0), 1);
    Due.equal("repetition()", x.repetition(), 0);
    Due.equal("runUntilDone(100)", x.runUntilDone(100), 22);
    Due.equal("events", Sample.events(x), "72,3,0 144,4,0 165,1,1 166,6,0");
    Due.equal("received", Sample.received(x, 1), "1/");
    x = Sample.sending(Sample.IN_STEP.replace("ad/1", "ad") + "lose 4;retries 0;");
    x.run(72);
    Due.equal("events", Sample.events(x), "72,4,0 72,6,0");
    quiet(x);
    Due.equal("linesDone(0)", x.linesDone(0), 1);
  }

  private static void badLine() {
    TypeWheelTelegraph x = Sample.sending(Sample.IN_STEP + "lose 1;");
    x.run(21);
    Due.equal("events", Sample.events(x), "21,2,1");
    Due.equal("buffer", Sample.buffer(x), "");
    Due.equal("received", Sample.received(x, 1), "");
    Due.equal("underWay()", x.underWay(), 1);
    x.run(1);
    Due.equal("events", Sample.events(x), "21,2,1 22,3,0");
    Due.equal("isWaiting()", x.isWaiting(), false);
    Due.equal("repetition()", x.repetition(), 1);
  }

  private static void earlyAnswerIsIgnored() {
    // Without its shift, 1a is read as b, an end signal and a bad check while it is still sent.
    TypeWheelTelegraph x = Sample.sending(Sample.IN_STEP.replace("ad/1", "1a") + "lose 1;");
    Due.equal("pulses", Sample.pulses(x, 0, 0), "1 3 0 2 0 2");
    x.run(17);
    Due.equal("underWay()", x.underWay(), 1);
    x.run(1);
    Due.equal("sentOfLine()", x.sentOfLine(), 4);
    Due.equal("underWay()", x.underWay(), 0);
    Due.equal("runUntilDone(100)", x.runUntilDone(100), 12);
    Due.equal("events", Sample.events(x), "17,2,1 29,1,0 30,6,0");
    Due.equal("received", Sample.received(x, 1), "/");
  }

  private static void shiftsThatAreMisread() {
    // The line b1 is sent by 3 1 3 1 5. One position ahead, it is read as c, a, c, a, 0.
    String text = Sample.IN_STEP.replace("ad/1", "b1").replace("5500", "500");
    TypeWheelTelegraph x = Sample.sending(text);
    x.run(27);
    Due.equal("buffer", Sample.buffer(x), "caca");
    Due.equal("misprints(1)", x.misprints(1), 4);
    x.run(8);
    // The check 5 is printed as 0, which is taken for the end signal.
    Due.equal("misprints(1)", x.misprints(1), 5);
    Due.equal("isWaiting()", x.isWaiting(), true);
    Due.equal("events", Sample.events(x), "");
    Due.equal("buffer", Sample.buffer(x), "caca");
  }

  private static void silenceClears() {
    // With the guard 1 the receiver is cleared in each tick in which no pulse arrives.
    TypeWheelTelegraph x = Sample.sending(Sample.IN_STEP + "guard 1;");
    x.run(5);
    Due.equal("buffer", Sample.buffer(x), "a");
    x.run(1);
    Due.equal("buffer", Sample.buffer(x), "");
    Due.equal("silence()", x.silence(), 1);
    // The end signal is forgotten too, so that the check is read as a letter.
    x.run(15);
    Due.equal("buffer", Sample.buffer(x), "c");
    Due.equal("events", Sample.events(x), "");
    x.run(2);
    Due.equal("events: at 20 + 2 + 1", Sample.events(x), "23,3,0");
    // The silence is counted from the start, too.
    TypeWheelTelegraph y = Sample.of(Sample.IN_STEP.replace("ad/1", "ad"));
    y.run(7);
    y.start(0);
    Due.equal("silence()", y.silence(), 0);
    y.run(2);
    Due.equal("silence()", y.silence(), 2);
    y.runUntilDone(100);
    Due.equal("silence()", y.silence(), 0);
  }

  private static void breaks() {
    TypeWheelTelegraph x = Sample.sending(Sample.IN_STEP);
    x.run(12);
    Due.equal("breakIn()", x.breakIn(), 13);
    Due.equal("underWay()", x.underWay(), 2);
    Due.equal("bufferLength()", x.bufferLength(), 2);
    x.run(1);
    quiet(x);
    Due.equal("events", Sample.events(x), "13,5,0");
    Due.equal("prints(1)", x.prints(1), 3);
    Due.equal("linesDone(0)", x.linesDone(0), 0);
    Due.equal("start(0)", x.start(0), 0);
    Due.equal("nextPulseIn()", x.nextPulseIn(), 3);
    // An answer that was sent before the break comes first, and the next line is being sent then.
    TypeWheelTelegraph y = Sample.sending(Sample.IN_STEP);
    y.run(21);
    y.breakIn();
    y.run(1);
    Due.equal("events", Sample.events(y), "21,1,2 22,5,1");
    Due.equal("linesDone(0)", y.linesDone(0), 1);
    Due.equal("start(0)", y.start(0), 1);
    // With the retries counted anew.
    TypeWheelTelegraph z = Sample.sending(Sample.IN_STEP + "lose 4;");
    z.run(73);
    Due.equal("repetition()", z.repetition(), 1);
    z.breakIn();
    z.run(1);
    z.start(0);
    Due.equal("repetition()", z.repetition(), 0);
  }

  private static void breakAndPulses() {
    // Sent at 11 and arriving at 12, the break ends it before the pulse of 12 is sent.
    TypeWheelTelegraph x = Sample.sending(Sample.IN_STEP);
    x.run(11);
    x.breakIn();
    x.run(1);
    Due.equal("pulses()", x.pulses(), 2);
    // With the delay 5 the pulse is sent at 12, and removed by the break at 16.
    TypeWheelTelegraph y = Sample.sending(Sample.IN_STEP + "delay 5;");
    y.run(11);
    Due.equal("breakIn()", y.breakIn(), 16);
    Due.equal("breakIn()", y.breakIn(), 16);
    Due.equal("underWay()", y.underWay(), 3);
    y.run(4);
    Due.equal("underWay()", y.underWay(), 3);
    Due.equal("pulses()", y.pulses(), 3);
    Due.equal("prints(1)", y.prints(1), 2);
    y.run(1);
    quiet(y);
    Due.equal("events", Sample.events(y), "16,5,0");
    y.run(9);
    Due.equal("prints(1)", y.prints(1), 2);
  }

  private static void longTransmission() {
    String line = "0a".repeat(15);
    String lines = (line + "/").repeat(12);
    String text = "delay 50;office 0 500;office 3000 500;message 0 ";
    TypeWheelTelegraph x = Sample.sending(text + lines.substring(0, lines.length() - 1) + ";");
    for (int times = 0; times < 10; times++) {
      x.runUntilDone(5000);
    }
    Due.equal("pulses()", x.pulses(), 12 * 62);
    Due.equal("received", Sample.received(x, 1), lines);
    Due.equal("misprints(1)", x.misprints(1), 0);
  }

  private static void fullBuffer() {
    String text = "office 0 500;office 27500 500;message 0 " + "0a".repeat(15) + ";";
    TypeWheelTelegraph x = Sample.sending(text);
    // Five positions ahead, office 1 reads the shifts as letters too: 60 letters in all.
    x.nudge(1, 5000);
    for (int ticks = 0; x.prints(1) < 40 && ticks < 5000; ticks++) {
      x.run(1);
    }
    Due.equal("bufferLength()", x.bufferLength(), 40);
    for (int ticks = 0; x.prints(1) < 60 && ticks < 5000; ticks++) {
      x.run(1);
    }
    Due.equal("buffer", Sample.buffer(x), "efdf".repeat(10));
    x.nudge(1, -5000);
    x.runUntilDone(5000);
    Due.equal("received", Sample.received(x, 1), "efdf".repeat(10) + "/");
    Due.equal("the code of event 0", x.event(0, 1), 1);
    Due.equal("the characters of the good line", x.event(0, 2), 40);
    Due.equal("misprints(1)", x.misprints(1), 60);
  }

  private static void fullReceivedText() {
    String line = "abcdefghijklabcdefghijklabcdef";
    String text = "delay 4;office 0 500;office 26000 500;";
    TypeWheelTelegraph x = Sample.of(text + "message 0 abcdefghijkl abcdefghijkl abcdef;");
    // A break that is sent just before the check arrives comes before the answer.
    for (int times = 0; times < 33; times++) {
      x.start(0);
      for (int ticks = 0; !x.isWaiting() && ticks < 500; ticks++) {
        x.run(1);
      }
      x.run(3);
      x.breakIn();
      x.run(4);
      Due.equal("sender()", x.sender(), -1);
      Due.equal("linesDone(0)", x.linesDone(0), 0);
    }
    String all = (line + "/").repeat(33);
    Due.equal("received", Sample.received(x, 1), all.substring(0, 1000));
  }

  private static void otherOfficeSends() {
    TypeWheelTelegraph x = Sample.of("wheel 6;office 5500 500;office 0 500;message 1 ad;");
    Due.equal("start(1)", x.start(1), 0);
    Due.equal("sender()", x.sender(), 1);
    Due.equal("runUntilDone(99)", x.runUntilDone(99), 22);
    Due.equal("events", Sample.events(x), "21,1,2 22,6,1");
    Due.equal("received", Sample.received(x, 0), "ad/");
    Due.equal("prints(0)", x.prints(0), 4);
    Due.equal("prints(1)", x.prints(1), 0);
    Due.equal("linesDone(1)", x.linesDone(1), 1);
    Due.equal("linesDone(0)", x.linesDone(0), 0);
  }
}
