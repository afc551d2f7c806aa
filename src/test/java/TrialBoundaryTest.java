/** The boundaries of promises 48 to 54, sentence by sentence. */
public final class TrialBoundaryTest {
  private static final Class<?> NO_INDEX = IndexOutOfBoundsException.class;
  private static final Class<?> NO_VALUE = IllegalArgumentException.class;
  private static final String WHEELS = "wheel 6;office 0 500;office 5500 500;";
  private static final int MIN = Integer.MIN_VALUE;
  private static final int MAX = Integer.MAX_VALUE;

  public static void main(String[] args) {
    nothingChanges();
    laterThanTheLastTime();
    misprintsTicks();
    misprintsOfBoth();
    untilDoneLimit();
    untilDoneTicks();
    correctionTicks();
    correctionLimits();
    rateTicks();
    rates();
    rateOfPrints();
    nudgeTicks();
    nudges();
    format();
    formatLength();
    formattedIndex();
    Due.end("TrialBoundaryTest");
  }

  private static void nothingChanges() {
    Due.sentence("Promise 48", "---- trials: ticks on a copy; nothing changes;");
    String[] calls = {
      "misprintsIn 1", "misprintsIn 2000", "ticksUntilDone 1", "ticksUntilDone 5000",
      "bestCorrection 1", "bestCorrection 1000", "bestRate 0 1", "bestRate 1 1000",
      "bestNudge 0 1000", "bestNudge 1 1"
    };
    for (int ticks = 0; ticks <= 40; ticks += 5) {
      for (String call : calls) {
        TypeWheelTelegraph x = inTheMidst(ticks);
        Due.equal(call + " throws", Calls.ask(x, call).startsWith("throws"), false);
        Due.equal("what goes on after " + call, goneOn(x), goneOn(inTheMidst(ticks)));
      }
    }
  }

  private static TypeWheelTelegraph inTheMidst(int ticks) {
    TypeWheelTelegraph x = Sample.sending(Sample.IN_STEP.replace("5500", "5940") + "lose 4;");
    x.format(0);
    Sample.pass(x, ticks);
    Calls.put(x, "delay 9;");
    return x;
  }

  private static String goneOn(TypeWheelTelegraph x) {
    StringBuilder seen = new StringBuilder(Calls.watch(x));
    x.run(100);
    seen.append(Calls.watch(x)).append(x.setCorrection(2)).append(' ');
    for (int i = 0; i < 21; i++) {
      seen.append(Calls.answer(x, "lose", 3)).append(' ');
    }
    seen.append(x.load()).append(' ').append(x.lead());
    return seen.toString();
  }

  private static void laterThanTheLastTime() {
    Due.sentence("Promise 48", "the time may exceed 100000");
    // At 99996 and 100000 the wheel of office 0 is at 0 and 2000; it sends 0 first, then 2.
    for (int time : new int[] {99996, 100000}) {
      TypeWheelTelegraph x = Sample.of(WHEELS.replace("5500", "400") + "message 0 /;retries 0;");
      Sample.pass(x, time);
      x.start(0);
      int first = x.nextPulseIn();
      Due.equal("the wheel at " + time, first, time == 99996 ? 12 : 8);
      Due.equal("misprintsIn", x.misprintsIn(first), 0);
      Due.equal("misprintsIn with the first print", x.misprintsIn(first + 1), 1);
      Due.equal("misprintsIn(2000) of both lines", x.misprintsIn(2000), 4);
      Due.equal("bestNudge of 900 ahead", x.bestNudge(1, first + 1), -500);
      Due.equal("bestRate(1, 1)", x.bestRate(1, 1), 495);
      Due.equal("bestCorrection(1000)", x.bestCorrection(1000), 0);
      int ticks = x.ticksUntilDone(5000);
      Due.equal("ticksUntilDone(5000)", ticks > 4, true);
      Due.equal("ticksUntilDone of one less", x.ticksUntilDone(ticks - 1), -1);
      Due.equal("time()", x.time(), time);
    }
  }

  private static void misprintsTicks() {
    Due.sentence("Promise 48", "- `ticks`: 1 to 2000");
    // The pulse is sent in the 1999th tick, and printed in the 2000th by a wheel at 20.
    String late = "office 10010 10;office 0 10;message 0 a;";
    Due.equal("misprintsIn(1999)", Sample.sending(late).misprintsIn(1999), 0);
    Due.equal("misprintsIn(2000)", Sample.sending(late).misprintsIn(2000), 1);
    TypeWheelTelegraph x = Sample.sending(late);
    x.run(1999);
    Due.equal("misprintsIn(1)", x.misprintsIn(1), 1);
    refuse("Promise 48", "ticks", "misprintsIn", 2000);
  }

  private static void refuse(String promise, String parameter, String call, int last) {
    Due.sentence(
        promise, "Throws `IllegalArgumentException` if " + parameter + " is out of range");
    for (int ticks : new int[] {MIN, -1, 0, last + 1, MAX}) {
      Twins.refuseCall(Sample::busy, NO_VALUE, call + " " + ticks);
      Twins.refuseCall(TypeWheelTelegraph::new, NO_VALUE, call + " " + ticks);
    }
    String first = Calls.ask(Sample.busy(), call + " 1");
    Due.equal(call + " 1 throws", first.startsWith("throws"), false);
    String longest = Calls.ask(Sample.busy(), call + " " + last);
    Due.equal(call + " " + last + " throws", longest.startsWith("throws"), false);
  }

  private static void misprintsOfBoth() {
    Due.sentence(
        "Promise 48", "Returns the number of misprints of both offices in the next ticks.");
    Due.equal("without a sender", new TypeWheelTelegraph().misprintsIn(2000), 0);
    // One position ahead; the earlier misprints do not count.
    for (int office = 0; office < 2; office++) {
      String wheels = "wheel 6;office 0 500;office 0 500;";
      TypeWheelTelegraph x = Sample.of(wheels + "message " + office + " a;");
      x.nudge(1 - office, 500);
      x.start(office);
      x.run(5);
      Due.equal("misprints", x.misprints(1 - office), 1);
      Due.equal("misprintsIn(7)", x.misprintsIn(7), 0);
      Due.equal("misprintsIn(8)", x.misprintsIn(8), 1);
      Due.equal("misprintsIn(13)", x.misprintsIn(13), 1);
      Due.equal("misprintsIn(14)", x.misprintsIn(14), 2);
    }
  }

  private static void untilDoneLimit() {
    Due.sentence("Promise 49", "- `limit`: 1 to 5000");
    // The line fails at 18 + 2 + 5000.
    TypeWheelTelegraph x = Sample.sending(WHEELS + "message 0 a;guard 5000;retries 0;lose 3;");
    x.run(19);
    Due.equal("ticksUntilDone(5000) at 19", x.ticksUntilDone(5000), -1);
    x.run(1);
    Due.equal("ticksUntilDone(5000) at 20", x.ticksUntilDone(5000), 5000);
    Due.equal("ticksUntilDone(4999) at 20", x.ticksUntilDone(4999), -1);
    Sample.pass(x, 4998);
    Due.equal("ticksUntilDone(1) two before", x.ticksUntilDone(1), -1);
    Due.equal("ticksUntilDone(2) two before", x.ticksUntilDone(2), 2);
    x.run(1);
    Due.equal("ticksUntilDone(1) one before", x.ticksUntilDone(1), 1);
    refuse("Promise 49", "limit", "ticksUntilDone", 5000);
  }

  private static void untilDoneTicks() {
    Due.sentence(
        "Promise 49",
        "Returns the number of ticks after which there would be no sender; NONE if there would be"
            + " one after limit ticks.");
    Due.equal("without a sender", new TypeWheelTelegraph().ticksUntilDone(1), 0);
    TypeWheelTelegraph x = Sample.sending(WHEELS + "message 0 a;");
    Due.equal("ticksUntilDone(19)", x.ticksUntilDone(19), -1);
    Due.equal("ticksUntilDone(20)", x.ticksUntilDone(20), 20);
    Due.equal("ticksUntilDone(21)", x.ticksUntilDone(21), 20);
    x.run(20);
    Due.equal("ticksUntilDone(1) at the end", x.ticksUntilDone(1), 0);
  }

  private static void correctionTicks() {
    Due.sentence("Promise 50", "- `ticks`: 1 to 1000");
    // The print in tick 800 is 300 ahead; uncorrected, the one in tick 1000 is 500 ahead.
    TypeWheelTelegraph x = Sample.sending("office 22010 10;office 21500 11;message 0 ac;");
    Due.equal("bestCorrection(999)", x.bestCorrection(999), 0);
    Due.equal("bestCorrection(1000)", x.bestCorrection(1000), 25);
    x.run(999);
    Due.equal("bestCorrection(1)", x.bestCorrection(1), 0);
    refuse("Promise 50", "ticks", "bestCorrection", 1000);
  }

  private static void correctionLimits() {
    Due.sentence(
        "Promise 50",
        "Returns the smallest correction limit among 0, 25, 50, ..., 500 with which the next ticks"
            + " would bring the fewest misprints of both offices.");
    // The first print is ahead by this much, and the second one by 12 ticks of 10 each more.
    Due.equal("499 and 619", bestLimit(499, 510), 125);
    Due.equal("405 and 525", bestLimit(405, 510), 50);
    Due.equal("404 and 524", bestLimit(404, 510), 25);
    Due.equal("380 and 500", bestLimit(380, 510), 25);
    Due.equal("379 and 499", bestLimit(379, 510), 0);
    // 41 each tick are 492 more; what is left of the first offset may be 7.
    Due.equal("482 and 974", bestLimit(482, 541), 475);
    Due.equal("483 and 975", bestLimit(483, 541), 500);
    Due.equal("499 and 991", bestLimit(499, 541), 500);
    // 42 each tick are 504 more: no limit helps.
    Due.equal("499 and 1003", bestLimit(499, 542), 0);
    Due.equal("without prints", new TypeWheelTelegraph().bestCorrection(1000), 0);
  }

  /** The prints of two a in the ticks 5 and 17. */
  private static int bestLimit(int ahead, int rate) {
    TypeWheelTelegraph x = Sample.sending("wheel 6;office 0 500;office 0 500;message 0 aa;");
    x.setRate(1, rate);
    x.nudge(1, 2000 + ahead - 5 * rate);
    return x.bestCorrection(17);
  }

  private static void rateTicks() {
    Due.sentence("Promise 51", "- `ticks`: 1 to 1000");
    // The prints in tick 800 and 1000: by the rate 10 the offsets are 200 and 0, by 11 they are 0
    // and 200, by 15 as by 10.
    String text = "office 22010 10;office 22200 10;correct 500;message 0 ac;";
    TypeWheelTelegraph x = Sample.sending(text);
    Due.equal("bestRate(1, 799)", x.bestRate(1, 799), 10);
    Due.equal("bestRate(1, 800)", x.bestRate(1, 800), 11);
    Due.equal("bestRate(1, 999)", x.bestRate(1, 999), 11);
    Due.equal("bestRate(1, 1000)", x.bestRate(1, 1000), 10);
    x.run(799);
    Due.equal("bestRate(1, 1): the offset is 200 by 10", x.bestRate(1, 1), 10);
    refuse("Promise 51", "ticks", "bestRate 0", 1000);
    refuse("Promise 51", "ticks", "bestRate 1", 1000);
  }

  private static void rates() {
    Due.sentence(
        "Promise 51",
        "Returns the rate of an office, among its present rate minus 5 to plus 5 (as far as they"
            + " are 10 to 999)");
    // Without a print all are the same, and the smallest one is the answer.
    int[][] lowest = {{10, 10}, {11, 10}, {14, 10}, {15, 10}, {16, 11}, {500, 495}, {999, 994}};
    for (int[] one : lowest) {
      TypeWheelTelegraph x = Sample.of("office 0 " + one[0] + ";office 0 " + one[0] + ";");
      Due.equal("bestRate(0, 1) by " + one[0], x.bestRate(0, 1), one[1]);
      Due.equal("bestRate(1, 1000) by " + one[0], x.bestRate(1, 1000), one[1]);
    }
    // The print in tick 5 is right by the due rate, and off by 5 for each one more or less.
    int[][] right = {
      {10, 10, 10}, {10, 15, 15}, {10, 16, 15}, {15, 10, 10}, {16, 10, 11}, {500, 495, 495},
      {500, 494, 495}, {500, 505, 505}, {500, 506, 505}, {993, 999, 998}, {994, 999, 999},
      {995, 999, 999}, {995, 1000, 999}, {999, 1003, 999}, {999, 994, 994}, {999, 993, 994}
    };
    for (int[] one : right) {
      String text = "wheel 6;office 0 500;office 0 " + one[0] + ";correct 0;message 0 a;";
      TypeWheelTelegraph x = Sample.sending(text);
      x.nudge(1, 2000 - 5 * one[1]);
      Due.equal("bestRate(1, 5) of " + one[0] + ", " + one[1], x.bestRate(1, 5), one[2]);
    }
  }

  private static void rateOfPrints() {
    Due.sentence(
        "Promise 51",
        "with which the greatest absolute offset of any print of either office in the next ticks"
            + " would be smallest (0 if there were no prints); of several the smallest rate.");
    // The offset is 2 above by 501 and 3 below by 500; then 3 above and 2 below.
    bestOf(2, 501);
    bestOf(3, 500);
    // No prints are as good as prints without an offset: a slow sender sends in the tick after.
    TypeWheelTelegraph x = Sample.sending(WHEELS + "message 0 a;");
    Due.equal("bestRate(0, 5)", x.bestRate(0, 5), 495);
    // Of the rates that send in tick 4, the offset of the receiver does not depend on the rate.
    Due.equal("bestRate(0, 6)", x.bestRate(0, 6), 500);
    // Earlier prints do not count.
    x.nudge(1, 499);
    x.run(5);
    x.nudge(1, -299);
    Due.equal("worstOffset(1)", x.worstOffset(1), 499);
    Due.equal("bestRate(1, 8)", x.bestRate(1, 8), 500);
    // The same with office 0 as the receiver: its print in tick 5 is 499 ahead, the next is 0.
    x = Sample.of("wheel 6;office 5500 500;office 0 500;message 1 a;");
    x.start(1);
    x.nudge(0, 499);
    x.run(5);
    x.nudge(0, -299);
    Due.equal("worstOffset(0)", x.worstOffset(0), 499);
    Due.equal("bestRate(0, 8)", x.bestRate(0, 8), 500);
    x.setRate(0, 502);
    Due.equal("bestRate(0, 8)", x.bestRate(0, 8), 500);
    // An offset of 1 is worse than none.
    x = Sample.sending(WHEELS + "message 0 a;");
    x.run(4);
    Due.equal("bestRate(1, 1)", x.bestRate(1, 1), 500);
  }

  private static void bestOf(int above, int due) {
    TypeWheelTelegraph x = Sample.sending(WHEELS + "message 0 a;correct 0;");
    x.nudge(1, above - 5);
    Due.equal("bestRate(1, 5) by " + above + " above", x.bestRate(1, 5), due);
  }

  private static void nudgeTicks() {
    Due.sentence("Promise 52", "- `ticks`: 1 to 1000");
    // The print in tick 1000 is 600 ahead.
    TypeWheelTelegraph x = Sample.sending("office 20010 10;office 20600 10;message 0 a;");
    Due.equal("bestNudge(1, 999)", x.bestNudge(1, 999), 0);
    Due.equal("bestNudge(1, 1000)", x.bestNudge(1, 1000), -200);
    x.run(999);
    Due.equal("bestNudge(1, 1)", x.bestNudge(1, 1), -200);
    refuse("Promise 52", "ticks", "bestNudge 0", 1000);
    refuse("Promise 52", "ticks", "bestNudge 1", 1000);
  }

  private static void nudges() {
    Due.sentence(
        "Promise 52",
        "Returns the change of the phase of an office, among -500, -400, ..., 500, by which the"
            + " next ticks would bring the fewest misprints of both offices; of several the one"
            + " with the smallest absolute value, of two the negative one.");
    int[][] cases = {
      {0, 0}, {499, 0}, {500, -100}, {599, -100}, {600, -200}, {899, -400}, {900, -500},
      {999, -500}, {1000, 0}, {-500, 0}, {-501, 100}, {-600, 100}, {-601, 200}, {-900, 400},
      {-901, 500}, {-1000, 500}, {-1001, 0}, {2500, 0}
    };
    for (int[] one : cases) {
      TypeWheelTelegraph x = Sample.sending(WHEELS + "message 0 a;");
      x.nudge(1, one[0]);
      Due.equal("bestNudge(1, 5) by " + one[0], x.bestNudge(1, 5), one[1]);
      Due.equal("bestNudge(1, 4) by " + one[0], x.bestNudge(1, 4), 0);
    }
    // The second print is 1440 more behind; a change mends one of the two.
    String drifting = "wheel 6;office 0 500;office 0 500;correct 0;message 0 aa;";
    TypeWheelTelegraph x = Sample.sending(drifting);
    x.setRate(1, 380);
    x.nudge(1, 2720 - 5 * 380);
    Due.equal("the misprints", x.misprintsIn(17), 2);
    Due.equal("720 ahead, 720 behind: 300 either way", x.bestNudge(1, 17), -300);
    x.nudge(1, 30);
    Due.equal("750 ahead, 690 behind", x.bestNudge(1, 17), 200);
    x.nudge(1, -60);
    Due.equal("690 ahead, 750 behind", x.bestNudge(1, 17), -200);
    Due.equal("without prints", new TypeWheelTelegraph().bestNudge(0, 1000), 0);
  }

  private static void format() {
    Due.sentence(
        "Promise 53",
        "Formats an office as text: its number, \": \", the phase, \"+\", the rate, then, if it is"
            + " the sender, \" sends \" and the number of the current line, or \" waits\" if it is"
            + " waiting; then, if it is the receiver, \" prints \" and the characters of its line"
            + " buffer.");
    TypeWheelTelegraph x = Sample.of("office 27999 999;office 0 10;message 0 ///////////a;");
    formatted(x, 0, "0: 27999+999");
    formatted(x, 1, "1: 0+10");
    x = Sample.sending(WHEELS + "message 0 ///////////a;");
    formatted(x, 0, "0: 0+500 sends 0");
    formatted(x, 1, "1: 5500+500 prints ");
    x.run(15);
    formatted(x, 0, "0: 1500+500 sends 0");
    x.run(1);
    formatted(x, 0, "0: 2000+500 waits");
    formatted(x, 1, "1: 1500+500 prints ");
    x.run(2 + 10 * 12);
    formatted(x, 0, "0: 3000+500 sends 11");
    x.run(11);
    formatted(x, 1, "1: 2000+500 prints a");
    x.runUntilDone(50);
    formatted(x, 0, "0: 4000+500");
    formatted(x, 1, "1: 3500+500");
    // A buffer that is full: five positions ahead, all is read as letters.
    x = Sample.of("office 0 500;office 27500 500;message 0 " + "0a".repeat(15) + ";");
    x.nudge(1, 5000);
    x.start(0);
    x.run(112 * 12);
    formatted(x, 1, "1: 4500+500 prints " + "efdf".repeat(10));
  }

  private static void formatted(TypeWheelTelegraph x, int office, String text) {
    Due.equal("format(" + office + ")", x.format(office), text.length());
    StringBuilder seen = new StringBuilder();
    for (int i = 0; i < text.length(); i++) {
      seen.append(x.formattedCharacter(i));
    }
    Due.equal("the formatted text", seen, text);
    String behind = Calls.answer(x, "formattedCharacter", text.length());
    Due.equal("what is behind it", behind, "throws.IndexOutOfBoundsException");
  }

  private static void formatLength() {
    Due.sentence("Promise 53", "The text replaces the previous formatted text.");
    TypeWheelTelegraph x = Sample.sending(WHEELS + "message 0 a;");
    formatted(x, 1, "1: 5500+500 prints ");
    formatted(x, 0, "0: 0+500 sends 0");
    formatted(x, 1, "1: 5500+500 prints ");
    for (int office : new int[] {MIN, -1, 2, MAX}) {
      Twins.refuse(Sample::busy, NO_INDEX, "format", office);
      String answer = Calls.answer(x, "format", office);
      Due.equal("format(" + office + ")", answer, "throws.IndexOutOfBoundsException");
      Due.equal("the text stays", x.formattedCharacter(0), '1');
      Due.equal("its end stays", x.formattedCharacter(18), ' ');
    }
  }

  private static void formattedIndex() {
    Due.sentence("Promise 54", "- `index`: 0 to the length of the formatted text minus 1");
    Due.sentence(
        "Promise 54",
        "Throws `IndexOutOfBoundsException` if there is no such character (also before the first"
            + " format())");
    int length = Sample.busy().format(1);
    for (int index : new int[] {MIN, -1, length, length + 1, MAX}) {
      Twins.refuse(Sample::busy, NO_INDEX, "formattedCharacter", index);
      Twins.refuse(TypeWheelTelegraph::new, NO_INDEX, "formattedCharacter", index);
    }
    Twins.refuse(TypeWheelTelegraph::new, NO_INDEX, "formattedCharacter", 0);
    TypeWheelTelegraph x = new TypeWheelTelegraph();
    Due.equal("format(1)", x.format(1), 8);
    Due.equal("formattedCharacter(0)", x.formattedCharacter(0), '1');
    Due.equal("formattedCharacter(7)", x.formattedCharacter(7), '0');
  }
}
