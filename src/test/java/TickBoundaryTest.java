/** The boundaries that the section ONE TICK names, sentence by sentence. */
public final class TickBoundaryTest {
  private static final String SECTION = "ONE TICK";
  /** A wheel turns once in 12 ticks, and passes position p in tick 2 * p of each circle. */
  private static final String WHEELS = "wheel 6;office 0 500;office 5500 500;";

  public static void main(String[] args) {
    oneSender();
    clearing();
    timeAndPhases();
    delay();
    order();
    offsets();
    corrections();
    correctionAtTheEndOfTheCircle();
    misprints();
    goodAndBad();
    thousandCharacters();
    clearedByCheck();
    shifts();
    appended();
    fortyFirst();
    ignoredAnswers();
    answers();
    broken();
    breaks();
    brokenLine();
    passing();
    waiting();
    failing();
    silence();
    nextLine();
    retries();
    sameTick();
    ends();
    Due.end("TickBoundaryTest");
  }

  private static void oneSender() {
    Due.sentence(SECTION, "One office at most is the sender; the other one is the receiver then.");
    String text = Sample.IN_STEP + "message 1 a;";
    for (int office = 0; office < 2; office++) {
      TypeWheelTelegraph x = Sample.of(text);
      x.start(office);
      Due.equal("sender()", x.sender(), office);
      Due.equal("start(0)", Calls.answer(x, "start", 0), "throws.IllegalStateException");
      Due.equal("start(1)", Calls.answer(x, "start", 1), "throws.IllegalStateException");
      x.run(6);
      Due.equal("prints of the sender", x.prints(office), 0);
      Due.equal("prints of the receiver", x.prints(1 - office), 1);
    }
  }

  private static void clearing() {
    Due.sentence(
        SECTION,
        "To clear the receiver means that they become empty, 0, letters and false; this is done"
            + " only where this document says so.");
    // The line b1 is sent by 3 1 3 1 5 at 6, 14, 18, 26, 34. The guard is over between two of them.
    cleared(8, 14, "b", "b");
    cleared(7, 13, "b", "");
    // The figure shift and the count are forgotten before the figure comes, at 19.
    TypeWheelTelegraph x = Sample.sending(WHEELS + "guard 4;message 0 b1;");
    x.run(19);
    Due.equal("the figure arrives in time", Sample.buffer(x), "1");
    x = Sample.sending(WHEELS + "guard 3;message 0 b1;");
    x.run(19);
    Due.equal("the figure arrives too late", Sample.buffer(x), "b");
    // The flag is forgotten before the check comes, at 35.
    x = Sample.sending(WHEELS + "guard 8;message 0 b1;");
    x.run(35);
    Due.equal("the check arrives in time", x.eventCount(), 1);
    x = Sample.sending(WHEELS + "guard 7;message 0 b1;");
    x.run(35);
    Due.equal("the check arrives too late", Sample.buffer(x), "d");
    Due.equal("eventCount()", x.eventCount(), 0);
    // The two a are printed at 5 and 17, the check at 33; the count of the first is forgotten.
    x = Sample.sending(WHEELS + "guard 12;message 0 aa;");
    x.run(33);
    Due.equal("the second a arrives in time", Sample.events(x), "33,1,2");
    x = Sample.sending(WHEELS + "guard 11;message 0 aa;");
    x.run(33);
    Due.equal("the second a arrives too late", Sample.events(x), "33,2,1");
  }

  private static void cleared(int guard, int ticks, String before, String after) {
    TypeWheelTelegraph x = Sample.sending(WHEELS + "guard " + guard + ";message 0 b1;");
    x.run(ticks);
    Due.equal("the buffer at " + ticks + " by the guard " + guard, Sample.buffer(x), before);
    x.run(1);
    Due.equal("the buffer a tick later", Sample.buffer(x), after);
  }

  private static void timeAndPhases() {
    Due.sentence(SECTION, "The time increases by 1. Both phases advance.");
    TypeWheelTelegraph x = Sample.of("office 0 10;office 27001 999;");
    Due.equal("time()", x.time(), 0);
    x.run(1);
    Due.equal("time()", x.time(), 1);
    Due.equal("phase(0)", x.phase(0), 10);
    Due.equal("phase(1)", x.phase(1), 0);
    x.run(2);
    Due.equal("time()", x.time(), 3);
    Due.equal("phase(0)", x.phase(0), 30);
    Due.equal("phase(1)", x.phase(1), 1998);
  }

  private static void delay() {
    Due.sentence(SECTION, "(What is sent at time t arrives at time t + delay.)");
    for (int delay : new int[] {1, 2, 49, 50}) {
      // The pulse of a is sent at 4, the check at 18.
      TypeWheelTelegraph x = Sample.sendingInStep(WHEELS + "message 0 a;delay " + delay + ";");
      x.run(4 + delay - 1);
      Due.equal("prints(1) before the arrival", x.prints(1), 0);
      x.run(1);
      Due.equal("prints(1) at the arrival", x.prints(1), 1);
      x.run(14);
      Due.equal("the check has arrived", x.eventCount(), 1);
      Sample.pass(x, delay - 1);
      Due.equal("sender() before the answer", x.sender(), 0);
      x.run(1);
      Due.equal("sender() after the answer", x.sender(), -1);
      x = Sample.sendingInStep(WHEELS + "message 0 a;delay " + delay + ";");
      Due.equal("breakIn()", x.breakIn(), delay);
      Sample.pass(x, delay - 1);
      Due.equal("sender() before the break", x.sender(), 0);
      x.run(1);
      Due.equal("sender() after the break", x.sender(), -1);
    }
  }

  private static void order() {
    Due.sentence(
        SECTION,
        "All that arrives at this time is processed, in the order in which it was sent.");
    // At 4 the pulse is sent, and then the break: both arrive at 5.
    TypeWheelTelegraph x = Sample.sending(WHEELS + "message 0 a;");
    x.run(4);
    x.breakIn();
    x.run(1);
    Due.equal("prints(1): the pulse comes first", x.prints(1), 1);
    Due.equal("events", Sample.events(x), "5,5,0");
    // The answer that is sent at 19 and the break that is sent then arrive at 20.
    x = Sample.sending(WHEELS + "message 0 a;");
    x.run(19);
    x.breakIn();
    x.run(1);
    Due.equal("events: the answer comes first", Sample.events(x), "19,1,1 20,6,0");
    // With the delay 2 the check arrives at 20, and the break that is sent at 19 is before it.
    x = Sample.sendingInStep(WHEELS + "message 0 a;delay 2;");
    x.run(19);
    x.breakIn();
    x.run(2);
    Due.equal("events: the break comes first", Sample.events(x), "20,1,1 21,5,0");
    Due.equal("linesDone(0)", x.linesDone(0), 0);
  }

  private static void offsets() {
    Due.sentence(
        SECTION,
        "The printed position is k modulo N, and the offset is phase - 1000 * k, from -500 to"
            + " 499.");
    print(498, 200, "498 498.0 0 a");
    print(499, 200, "499 499.0 0 a");
    print(500, 200, "500 -500.0 1 b");
    print(501, 200, "499 -499.0 1 b");
    print(1, 200, "1 1.0 0 a");
    print(0, 200, "0 0.0 0 a");
    print(-1, 200, "1 -1.0 0 a");
    print(-499, 200, "499 -499.0 0 a");
    print(-500, 200, "500 -500.0 0 a");
    print(-501, 200, "499 499.0 1 ");
    print(-1500, 200, "500 -500.0 1 ");
    print(-1501, 200, "499 499.0 1 ");
    print(2499, 200, "499 499.0 1 c");
    print(2500, 200, "500 -500.0 1 d");
  }

  private static TypeWheelTelegraph print(int ahead, int limit, String due) {
    TypeWheelTelegraph x = Sample.of(WHEELS + "message 0 a;correct " + limit + ";");
    x.nudge(1, ahead);
    x.start(0);
    x.run(5);
    StringBuilder seen = new StringBuilder();
    seen.append(x.worstOffset(1)).append(' ').append(x.meanOffset(1)).append(' ');
    seen.append(x.misprints(1)).append(' ').append(Sample.buffer(x));
    Due.equal("the print " + ahead + " ahead", seen, due);
    return x;
  }

  private static void corrections() {
    Due.sentence(
        SECTION,
        "The phase decreases by the offset, limited to the range from -C to C, where C is the"
            + " correction limit, modulo 1000 * N.");
    for (int ahead : new int[] {-500, -499, -120, -1, 0, 1, 120, 499}) {
      int size = Math.abs(ahead);
      for (int limit : new int[] {0, 1, size - 1, size, size + 1, 499, 500}) {
        if (limit >= 0 && limit <= 500) {
          int left = Math.max(0, size - limit);
          int due = 2000 + (ahead < 0 ? -left : left);
          String mean = Math.abs(ahead) + " " + (double) ahead + " 0 a";
          TypeWheelTelegraph x = print(ahead, limit, mean);
          Due.equal("phase(1) after a print " + ahead + " by " + limit, x.phase(1), due);
          Due.equal("phase(0)", x.phase(0), 2500);
        }
      }
    }
  }

  private static void correctionAtTheEndOfTheCircle() {
    Due.sentence(SECTION, "let k be (phase + 500) / 1000, rounded down.");
    // The empty line is sent by 0 2; its first pulse arrives at 13.
    topPrint(-501, 500, 5000, 1);
    topPrint(-500, 500, 0, 0);
    topPrint(-500, 499, 5999, 0);
    topPrint(-500, 0, 5500, 0);
    topPrint(-1, 0, 5999, 0);
    topPrint(-1, 1, 0, 0);
    topPrint(0, 500, 0, 0);
    topPrint(1, 0, 1, 0);
    topPrint(1, 1, 0, 0);
    topPrint(499, 500, 0, 0);
    topPrint(500, 500, 1000, 1);
  }

  private static void topPrint(int ahead, int limit, int phase, int misprints) {
    TypeWheelTelegraph x = Sample.of(WHEELS + "message 0 /;correct " + limit + ";");
    x.nudge(1, ahead);
    x.start(0);
    x.run(13);
    Due.equal("prints(1)", x.prints(1), 1);
    Due.equal("phase(1) after a print of 0, " + ahead + " by " + limit, x.phase(1), phase);
    Due.equal("misprints(1)", x.misprints(1), misprints);
  }

  private static void misprints() {
    Due.sentence(
        SECTION,
        "If the printed position is not the one that was sent, this is a misprint.");
    for (int ahead = -3000; ahead <= 2500; ahead += 500) {
      TypeWheelTelegraph x = Sample.of(WHEELS + "message 0 a;");
      x.nudge(1, ahead);
      x.start(0);
      x.run(5);
      Due.equal("misprints(1) " + ahead, x.misprints(1), ahead == 0 || ahead == -500 ? 0 : 1);
    }
    // A print that is exactly a circle ahead is right.
    TypeWheelTelegraph x = Sample.of(WHEELS + "message 0 a;");
    x.nudge(1, 12000);
    x.start(0);
    x.run(5);
    Due.equal("misprints(1) two circles ahead", x.misprints(1), 0);
  }

  private static void goodAndBad() {
    Due.sentence(
        SECTION,
        "the line is good if the position is 2 + count modulo (N - 2), otherwise bad");
    for (int n : new int[] {6, 7, 13, 27, 28}) {
      String wheels = "wheel " + n + ";office 0 500;office 0 500;";
      for (int length : new int[] {0, 1, n - 3, n - 2, n - 1, 30}) {
        String text = wheels + "message 0 /" + letters(Math.min(length, 30)) + ";retries 0;";
        TypeWheelTelegraph x = Sample.sendingInStep(text);
        x.runUntilDone(5000);
        int count = Math.min(length, 30);
        Due.equal("received", Sample.received(x, 1), "/" + "a".repeat(count) + "/");
        Due.equal("the code of event 1", x.event(1, 1), 1);
        Due.equal("the value of event 1", x.event(1, 2), count);
      }
    }
    // Five letters are 3 in the check; four lost ones make one circle of the check.
    String five = WHEELS + "message 0 aaaaa;retries 0;";
    checked(five, "67,1,5 68,6,0");
    checked(five + "lose 1;", "67,2,4 68,4,0 68,6,0");
    checked(five + "lose 1;lose 2;lose 3;", "67,2,2 68,4,0 68,6,0");
    checked(five + "lose 1;lose 2;lose 3;lose 4;", "67,1,1 68,6,0");
    checked(five + "lose 1;lose 2;lose 3;lose 4;lose 5;", "67,2,0 68,4,0 68,6,0");
  }

  private static String letters(int length) {
    StringBuilder text = new StringBuilder();
    for (int i = 0; i < length; i++) {
      text.append(i % 12 == 0 ? " a" : "a");
    }
    return text.toString();
  }

  private static void checked(String text, String events) {
    TypeWheelTelegraph x = Sample.sending(text);
    x.runUntilDone(500);
    Due.equal("events of " + text, Sample.events(x), events);
  }

  private static void thousandCharacters() {
    Due.sentence(
        SECTION,
        "if it is good, its characters and then a / are appended to the received text of the"
            + " receiver, which has at most 1000 characters (what does not fit is dropped);");
    String line = "abcdefghijklabcdefghijklabcdef";
    String before = (line + "/").repeat(32);
    received(5, before + "ccccc/b/");
    received(6, before + "cccccc/b");
    received(7, before + "ccccccc/");
    received(8, before + "cccccccc");
    received(9, before + "cccccccc");
  }

  /** The first line 32 times, which is 992 characters, then one of this length, and then b. */
  private static void received(int length, String due) {
    String messages = "message 0 abcdefghijkl abcdefghijkl abcdef/" + "c".repeat(length) + "/b;";
    TypeWheelTelegraph x = Sample.of("delay 4;office 0 500;office 26000 500;" + messages);
    for (int times = 1; times <= 31; times++) {
      // The break is sent just before the check arrives, so that it comes before the answer.
      int ticks = x.ticksFor(0, 0);
      x.start(0);
      x.run(ticks + 3);
      x.breakIn();
      x.run(4);
      Due.equal("receivedLength(1)", x.receivedLength(1), 31 * times);
    }
    x.start(0);
    x.runUntilDone(5000);
    Due.equal("linesDone(0)", x.linesDone(0), 3);
    Due.equal("misprints(1)", x.misprints(1), 0);
    Due.equal("receivedLength(1)", x.receivedLength(1), due.length());
    Due.equal("received", Sample.received(x, 1), due);
    int last = due.length() - 1;
    Due.equal("the last one", x.receivedCharacter(1, last), due.charAt(last));
    String behind = Calls.answer(x, "receivedCharacter", 1, due.length());
    Due.equal("the one behind it", behind, "throws.IndexOutOfBoundsException");
    Due.equal("the value of the last good line", x.event(x.eventCount() - 2, 2), 1);
  }

  private static void clearedByCheck() {
    Due.sentence(
        SECTION,
        "in both cases the answer (good or bad) is sent to the sender, and the receiver is"
            + " cleared.");
    // A good and a bad line in figures: the next line is read from the beginning all the same.
    for (String lost : new String[] {"", "lose 2;"}) {
      TypeWheelTelegraph x = Sample.sending(WHEELS + "message 0 1/a;retries 0;guard 50;" + lost);
      x.run(20);
      Due.equal("underWay() before the check", x.underWay(), 1);
      x.run(1);
      Due.equal("events by " + lost, Sample.events(x), lost.isEmpty() ? "21,1,1" : "21,2,1");
      Due.equal("underWay(): the answer", x.underWay(), 1);
      Due.equal("bufferLength()", x.bufferLength(), 0);
      x.runUntilDone(100);
      Due.equal("received", Sample.received(x, 1), lost.isEmpty() ? "1/a/" : "a/");
    }
  }

  private static void shifts() {
    Due.sentence(
        SECTION,
        "Otherwise, if the position is 0 or 1: if this is the shift that holds already, the"
            + " receiver expects a check from now on; else the shift changes, and the count"
            + " increases by 1.");
    checked(WHEELS + "message 0 /;", "17,1,0 29,1,0 30,6,0");
    // The line 1a1 is sent by 1 3 0 2 1 3 and, for these six positions, 1 4.
    checked(WHEELS + "message 0 1a1;", "45,1,3 46,6,0");
    // Without the first shift 3 is read as b, 0 as the end signal and 2 as the check behind one.
    // What follows, 1 3 1 4, is read as a line of two positions then.
    checked(WHEELS + "message 0 1a1;lose 1;", "17,2,1 45,1,1 46,6,0");
  }

  private static void appended() {
    Due.sentence(
        SECTION,
        "Otherwise the character of this position in the present shift is appended to the line"
            + " buffer, and the count increases by 1;");
    // The line is sent by the shifts, the positions 2 to 27 as letters, and 2 to 11 as figures.
    String text = "office 0 500;office 27500 500;";
    TypeWheelTelegraph x =
        Sample.sending(text + "message 0 abcdefghijkl mnopqrstuvwx yz/01234 56789;");
    x.runUntilDone(5000);
    Due.equal("received", Sample.received(x, 1), "abcdefghijklmnopqrstuvwxyz/0123456789/");
    // The figure 0 is sent at 4 and arrives at 5; a wheel that is ahead prints the other figures.
    for (int position = 2; position <= 27; position++) {
      x = Sample.sending(text + "message 0 0;");
      x.run(4);
      x.nudge(1, 1000 * (position - 2) - (position > 16 ? 28000 : 0));
      x.run(1);
      Due.equal("buffer", Sample.buffer(x), String.valueOf(x.character(position, true)));
    }
    // The count is told by the bad line: a lost 3 is one less than the check.
    checked(WHEELS + "message 0 ab;lose 2;retries 0;", "21,2,1 22,4,0 22,6,0");
  }

  private static void fortyFirst() {
    Due.sentence(
        SECTION,
        "a character that would be the 41st of the buffer is not appended, but counted.");
    // Of 14 or 15 pairs 0a, the first ones are read as four letters each.
    buffered(14, "b", 4, 37);
    buffered(14, "b", 5, 39);
    buffered(15, "", 5, 40);
    buffered(14, "b", 6, 41);
    buffered(15, "", 6, 42);
    buffered(15, "", 15, 60);
  }

  private static void buffered(int pairs, String behind, int misread, int characters) {
    String message = "message 0 " + "0a".repeat(pairs) + behind + ";";
    TypeWheelTelegraph x = Sample.of("office 0 500;office 27500 500;" + message);
    x.nudge(1, 5000);
    x.start(0);
    x.run(112 * misread);
    Due.equal("prints(1)", x.prints(1), 4 * misread);
    x.nudge(1, -5000);
    x.runUntilDone(5000);
    String all = "efdf".repeat(misread) + "0a".repeat(pairs - misread) + behind;
    String kept = all.substring(0, Math.min(40, all.length()));
    Due.equal("the characters", all.length(), characters);
    Due.equal("received of " + characters, Sample.received(x, 1), kept + "/");
    Due.equal("the code: all are counted", x.event(0, 1), 1);
    Due.equal("the value", x.event(0, 2), kept.length());
  }

  private static void ignoredAnswers() {
    Due.sentence(
        SECTION, "An answer arrives at the sender; it is ignored unless the sender is waiting.");
    // 1a is sent by 1 3 0 2 0 2 at 2, 6, 12, 16, 24, 28. Without its shift, the 2 is a bad check,
    // and by the delay 6 its answer arrives at 28, in part (b).
    String text = WHEELS + "message 0 1a;lose 1;delay 6;guard 50;retries 1;";
    TypeWheelTelegraph x = Sample.sendingInStep(text);
    x.runUntilDone(100);
    Due.equal("events of an answer in time", Sample.events(x), "22,2,1 34,1,0 40,6,0");
    // The last pulse is sent a tick sooner, so that the sender is waiting at 28.
    x = Sample.sendingInStep(text);
    x.run(24);
    x.nudge(0, 500);
    x.run(3);
    Due.equal("isWaiting()", x.isWaiting(), true);
    x.run(1);
    Due.equal("isWaiting()", x.isWaiting(), false);
    Due.equal("events of a tick later", Sample.events(x), "22,2,1 28,3,0");
  }

  private static void answers() {
    Due.sentence(SECTION, "After a good answer the line is done. After a bad one it has failed.");
    TypeWheelTelegraph x = Sample.sending(WHEELS + "message 0 a/a;");
    x.run(19);
    Due.equal("linesDone(0) before the answer", x.linesDone(0), 0);
    x.run(1);
    Due.equal("linesDone(0) after the answer", x.linesDone(0), 1);
    Due.equal("repetition()", x.repetition(), 0);
    x = Sample.sending(WHEELS + "message 0 a/a;lose 1;");
    x.run(19);
    Due.equal("repetition() before the answer", x.repetition(), 0);
    x.run(1);
    Due.equal("linesDone(0) after the answer", x.linesDone(0), 0);
    Due.equal("repetition()", x.repetition(), 1);
  }

  private static void broken() {
    Due.sentence(SECTION, "A break arrives at the sender: it ends its transmission.");
    // Before and behind each pulse, and while the sender is waiting.
    for (int ticks : new int[] {0, 3, 4, 11, 12, 17, 18}) {
      TypeWheelTelegraph x = Sample.sending(WHEELS + "message 0 a;guard 50;");
      Sample.pass(x, ticks);
      int arrival = x.breakIn();
      Due.equal("sender() before " + arrival, x.sender(), 0);
      x.run(1);
      Due.equal("sender() at " + arrival, x.sender(), -1);
      Due.equal("isWaiting()", x.isWaiting(), false);
      int last = x.eventCount() - 1;
      Due.equal("the time of the event", x.event(last, 0), arrival);
      Due.equal("its code", x.event(last, 1), 5);
    }
  }

  private static void breaks() {
    Due.sentence(
        SECTION,
        "There is no sender then, the receiver is cleared, and all pulses, answers and breaks that"
            + " are under way are removed.");
    // The check is sent at 18 and arrives at 28; the break is sent at 8, 9 or 10.
    for (int sent = 7; sent <= 11; sent++) {
      String text = WHEELS + "message 0 a;delay 10;guard 50;";
      TypeWheelTelegraph x = Sample.sendingInStep(text);
      x.run(sent);
      x.breakIn();
      x.breakIn();
      x.run(9);
      Due.equal("sender() before the break", x.sender(), 0);
      x.run(1);
      Due.equal("sender()", x.sender(), -1);
      Due.equal("underWay()", x.underWay(), 0);
      Due.equal("bufferLength()", x.bufferLength(), 0);
      int pulses = sent + 10 > 18 ? 3 : sent + 10 > 12 ? 2 : 1;
      Due.equal("pulses() by a break at " + (sent + 10), x.pulses(), pulses);
      x.run(50);
      Due.equal("prints(1) by a break at " + (sent + 10), x.prints(1), 1);
      Due.equal("events", Sample.events(x), (sent + 10) + ",5,0");
    }
    // The answer to the check is removed, too.
    TypeWheelTelegraph x = Sample.sendingInStep(WHEELS + "message 0 a;delay 10;");
    x.run(27);
    x.breakIn();
    x.run(10);
    x.run(10);
    Due.equal("events", Sample.events(x), "28,1,1 37,5,0");
    Due.equal("linesDone(0)", x.linesDone(0), 0);
    // The shift, the flag and the buffer are cleared for the next start.
    for (int ticks = 1; ticks <= 33; ticks++) {
      x = Sample.sending(WHEELS + "message 0 b1;");
      x.run(ticks);
      x.breakIn();
      x.run(1);
      x.start(0);
      x.runUntilDone(100);
      Due.equal("received after a break at " + ticks, Sample.received(x, 1), "b1/");
    }
  }

  private static void brokenLine() {
    Due.sentence(
        SECTION,
        "The line that was being sent is not done; it will be sent again from its beginning when"
            + " the office starts again, with its retries counted anew.");
    TypeWheelTelegraph x = Sample.sending(Sample.IN_STEP + "lose 4;lose 8;lose 12;");
    // It fails at 72 by the lost check, and has no retry left then.
    x.run(73);
    Due.equal("repetition()", x.repetition(), 1);
    x.run(10);
    x.breakIn();
    x.run(1);
    Due.equal("linesDone(0)", x.linesDone(0), 0);
    Due.equal("start(0)", x.start(0), 0);
    Due.equal("repetition()", x.repetition(), 0);
    Due.equal("sentOfLine()", x.sentOfLine(), 0);
    Due.equal("nextPulseIn(): position 2", x.nextPulseIn(), 4);
    x.runUntilDone(500);
    // The pulses 5 and 6 are sent before the break; 8 is then the second one, 12 the second again.
    Due.equal("a repetition and no line that is given up", codes(x), "3 5 2 3 2 4 1 6");
  }

  private static String codes(TypeWheelTelegraph x) {
    StringBuilder codes = new StringBuilder();
    for (int i = 0; i < x.eventCount(); i++) {
      codes.append(i == 0 ? "" : " ").append(x.event(i, 1));
    }
    return codes.toString();
  }

  private static void passing() {
    Due.sentence(
        SECTION,
        "If its wheel has passed the beginning of p in this tick, that is, if (phase - 1000 * p)"
            + " modulo (1000 * N) is less than its rate, it sends p.");
    for (int n : new int[] {6, 28}) {
      for (int rate : new int[] {10, 500, 999}) {
        passes(n, rate, "a", 2000);
        passes(n, rate, "/", 0);
        passes(n, rate, "d", 5000);
      }
    }
  }

  private static void passes(int n, int rate, String message, int begin) {
    int[] places = {-1, 0, 1, rate - 1, rate};
    int[] pulses = {0, 1, 1, 1, 0};
    for (int i = 0; i < places.length; i++) {
      int phase = Math.floorMod(begin + places[i] - rate, 1000 * n);
      String office = "wheel " + n + ";office " + phase + " " + rate + ";";
      TypeWheelTelegraph x = Sample.sending(office + "message 0 " + message + ";");
      Due.equal("run(1) of " + office + message, x.run(1), pulses[i]);
      Due.equal("sentOfLine()", x.sentOfLine(), pulses[i]);
    }
  }

  private static void waiting() {
    Due.sentence(
        SECTION,
        "If it was the last position of the line, the sender is waiting from now on, until the"
            + " time t + 2 * delay + guard.");
    // The check is sent at 18.
    TypeWheelTelegraph x = Sample.sending(WHEELS + "message 0 a;");
    x.run(17);
    Due.equal("isWaiting() before the last position", x.isWaiting(), false);
    Due.equal("sentOfLine()", x.sentOfLine(), 2);
    x.run(1);
    Due.equal("isWaiting() at the last position", x.isWaiting(), true);
    Due.equal("sentOfLine()", x.sentOfLine(), 3);
    waitsUntil(1, 1, 21);
    waitsUntil(1, 2, 22);
    waitsUntil(2, 1, 23);
    waitsUntil(50, 1, 119);
    waitsUntil(1, 4999, 5019);
    waitsUntil(1, 5000, 5020);
    waitsUntil(50, 5000, 5118);
  }

  private static void waitsUntil(int delay, int guard, int time) {
    String text = WHEELS + "message 0 a;lose 3;delay " + delay + ";guard " + guard + ";";
    TypeWheelTelegraph x = Sample.sendingInStep(text);
    Sample.pass(x, time - 1);
    Due.equal("isWaiting() a tick before " + time, x.isWaiting(), true);
    Due.equal("eventCount()", x.eventCount(), 0);
    x.run(1);
    Due.equal("isWaiting() at " + time, x.isWaiting(), false);
    Due.equal("events", Sample.events(x), time + ",3,0");
  }

  private static void failing() {
    Due.sentence(
        SECTION,
        "If there is a sender that has been waiting until this time, the line has failed.");
    // A break that arrives at 20 + 2 + 50 comes before part (d), one that arrives later does not.
    breakNear(71, "71,5,0");
    breakNear(72, "72,5,0");
    breakNear(73, "72,3,0 73,5,0");
  }

  private static void breakNear(int arrival, String events) {
    TypeWheelTelegraph x = Sample.sending(Sample.IN_STEP + "lose 4;");
    x.run(arrival - 1);
    x.breakIn();
    x.run(1);
    Due.equal("events of a break at " + arrival, Sample.events(x), events);
  }

  private static void silence() {
    Due.sentence(
        SECTION,
        "If at least guard ticks have passed since the latest numbered pulse arrived at the"
            + " receiver (or since it became the receiver), the receiver is cleared.");
    // a and d are printed at 5 and 11, the end signal at 13, the check at 21.
    silent(6, 11, "ad");
    silent(5, 11, "d");
    silent(8, 20, "ad");
    silent(7, 19, "ad");
    silent(7, 20, "");
    silent(1, 5, "a");
    silent(1, 6, "");
    TypeWheelTelegraph x = Sample.sending(WHEELS + "message 0 ad;guard 5000;lose 4;");
    x.runUntilDone(5000);
    x.run(12);
    Due.equal("silence()", x.silence(), 4999);
    Due.equal("the buffer before 5000 ticks", Sample.buffer(x), "ad");
    x.run(1);
    Due.equal("the buffer at 5000 ticks", Sample.buffer(x), "");
    // The silence does not count from the prints of an earlier transmission.
    x = Sample.sending(Sample.IN_STEP);
    x.run(6);
    x.breakIn();
    x.run(300);
    x.start(0);
    Due.equal("silence() at the start", x.silence(), 0);
    x.run(49);
    Due.equal("the buffer", x.bufferLength() > 0 || x.receivedLength(1) > 0, true);
  }

  private static void silent(int guard, int ticks, String buffer) {
    TypeWheelTelegraph x = Sample.sending(WHEELS + "message 0 ad;guard " + guard + ";");
    x.run(ticks);
    Due.equal("the buffer at " + ticks + " by the guard " + guard, Sample.buffer(x), buffer);
  }

  private static void nextLine() {
    Due.sentence(
        SECTION,
        "When a line is done, the sender continues with the next line of the office, or ends its"
            + " transmission, if there is none.");
    TypeWheelTelegraph x = Sample.sending(WHEELS + "message 0 a/a;message 1 a;");
    x.run(20);
    Due.equal("sender() behind the first line", x.sender(), 0);
    Due.equal("linesDone(0)", x.linesDone(0), 1);
    x.run(19);
    Due.equal("sender()", x.sender(), 0);
    Due.equal("linesDone(0)", x.linesDone(0), 1);
    x.runUntilDone(50);
    Due.equal("sender() behind the last line", x.sender(), -1);
    Due.equal("linesDone(0)", x.linesDone(0), 2);
    Due.equal("linesDone(1)", x.linesDone(1), 0);
    Due.equal("start(0)", Calls.answer(x, "start", 0), "throws.IllegalStateException");
  }

  private static void retries() {
    Due.sentence(
        SECTION,
        "When a line has failed, it is repeated from its beginning, if it was repeated less often"
            + " than the number of retries; otherwise it is given up: it counts as done, and the"
            + " sender continues as after a done line.");
    for (int retries = 0; retries <= 9; retries++) {
      // The line a is three pulses; its check is lost each time, or each time but the last.
      StringBuilder text = new StringBuilder(WHEELS + "message 0 a/b;guard 9;retries " + retries);
      for (int sending = 1; sending <= retries; sending++) {
        text.append(";lose ").append(3 * sending);
      }
      TypeWheelTelegraph x = Sample.sending(text + ";");
      x.runUntilDone(5000);
      String repeated = "3 ".repeat(retries);
      Due.equal("the last sending is good", codes(x), repeated + "1 1 6");
      Due.equal("linesDone(0)", x.linesDone(0), 2);
      x = Sample.sending(text + ";lose " + (3 * retries + 3) + ";");
      x.runUntilDone(5000);
      Due.equal("all sendings fail", codes(x), repeated + "4 1 6");
      Due.equal("linesDone(0)", x.linesDone(0), 2);
      Due.equal("received", Sample.received(x, 1), "b/");
    }
  }

  private static void sameTick() {
    Due.sentence(
        SECTION,
        "A repeated or next line begins in this tick: the sender is sending, and in part (c) of"
            + " this tick (if it has not passed yet) the first position is looked for already.");
    // The answer arrives at 22, as the wheel passes position 5: after a good and after a bad one.
    for (String lost : new String[] {"", "lose 1;"}) {
      TypeWheelTelegraph x = Sample.sending(WHEELS + "message 0 ad/d;" + lost);
      x.run(21);
      Due.equal("pulses()", x.pulses(), 4);
      x.run(1);
      Due.equal("isWaiting()", x.isWaiting(), false);
      Due.equal("pulses() by " + lost, x.pulses(), lost.isEmpty() ? 5 : 4);
    }
    TypeWheelTelegraph x = Sample.sending(WHEELS + "message 0 dd;lose 1;");
    // It is sent by 5 5 0 4 at 10, 22, 24, 32; the bad answer arrives at 34.
    x.run(33);
    Due.equal("pulses()", x.pulses(), 4);
    x.run(1);
    Due.equal("pulses() of a repeated line", x.pulses(), 5);
    Due.equal("repetition()", x.repetition(), 1);
    // In part (d) at 76, as the wheel passes position 2, part (c) is over.
    x = Sample.sending(Sample.IN_STEP + "lose 4;guard 54;");
    x.run(76);
    Due.equal("repetition()", x.repetition(), 1);
    Due.equal("pulses() of a line that failed in part (d)", x.pulses(), 4);
    x.run(12);
    Due.equal("pulses() a circle later", x.pulses(), 5);
    x = Sample.sending(Sample.IN_STEP + "lose 4;guard 53;");
    x.run(75);
    Due.equal("repetition()", x.repetition(), 1);
    x.run(1);
    Due.equal("pulses() of a line that failed a tick before", x.pulses(), 5);
  }

  private static void ends() {
    Due.sentence(
        SECTION,
        "When a transmission ends, there is no sender, the receiver is cleared, and nothing is"
            + " under way any more.");
    // A break that is sent with the answer is removed by the end that the answer brings.
    TypeWheelTelegraph x = Sample.sending(WHEELS + "message 0 a;message 1 b;");
    x.run(19);
    x.breakIn();
    x.breakIn();
    Due.equal("underWay()", x.underWay(), 3);
    x.run(1);
    Due.equal("sender()", x.sender(), -1);
    Due.equal("underWay()", x.underWay(), 0);
    Due.equal("events", Sample.events(x), "19,1,1 20,6,0");
    Due.equal("start(1)", x.start(1), 0);
    x.run(1);
    Due.equal("sender(): no break is left", x.sender(), 1);
    // A line that is given up leaves a full buffer behind.
    x = Sample.sending(WHEELS + "message 0 ad;message 1 b;guard 9;retries 0;lose 3;lose 4;");
    x.run(19);
    Due.equal("the buffer", Sample.buffer(x), "ad");
    x.nudge(1, 0);
    x.runUntilDone(50);
    Due.equal("the events", Sample.events(x), "31,4,0 31,6,0");
    Due.equal("bufferLength()", x.bufferLength(), 0);
    x.start(1);
    Due.equal("bufferLength()", x.bufferLength(), 0);
  }
}
