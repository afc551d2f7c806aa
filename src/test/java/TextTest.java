/** Promises 1 to 5, and the section INPUT TEXT. */
public final class TextTest {
  private static final String THIRTY = "abcdefghijkl abcdefghijkl abcdef";
  private static final String TWELVE_LINES = "message 0 ///////////;";

  public static void main(String[] args) {
    newObject();
    append();
    truncate();
    load();
    failedLoad();
    manyLoads();
    errorOffset();
    statements();
    numbersOutOfRange();
    messages();
    tokens();
    lastStatementCounts();
    Due.end("TextTest");
  }

  private static void newObject() {
    TypeWheelTelegraph x = new TypeWheelTelegraph();
    Due.equal("a new object", Calls.watch(x), Calls.watch(Sample.of("")));
    Due.equal("positions()", x.positions(), 28);
    Due.equal("phases", x.phase(0) + x.phase(1), 0);
    Due.equal("rates", x.rate(0) + x.rate(1), 200);
    Due.equal("lead() by the delay 1", x.lead(), 100);
    Due.equal("setCorrection(0)", x.setCorrection(0), 200);
    Due.thrown("truncate(1)", IllegalArgumentException.class, x, () -> x.truncate(1));
  }

  private static void append() {
    TypeWheelTelegraph x = new TypeWheelTelegraph();
    // "del" "ay 7" ... across the parameters; the first byte of all is a space.
    Due.equal("append", x.append(0x2064656c, 0x61792037, 0x3b6d6573, 0x73616765, 0x31207a3b), 20);
    Due.equal("load()", x.load(), 1);
    Due.equal("lead()", x.lead(), 700);
    Due.equal("lineCount(1)", x.lineCount(1), 1);
    Due.equal("pulseOf(1, 0, 0)", x.pulseOf(1, 0, 0), 27);
    for (int length = 20; length <= 600; length += 20) {
      int blanks = 0x20202020;
      Due.equal("append", x.append(blanks, blanks, blanks, blanks, 0x0a0a0a0a), length);
    }
    Due.thrown("append beyond 600", IllegalStateException.class, x, () -> x.append(0, 0, 0, 0, 0));
    x.truncate(581);
    Due.thrown("append beyond 600", IllegalStateException.class, x, () -> x.append(0, 0, 0, 0, 0));
    Due.equal("load() after appends that threw", x.load(), 0);
    Due.equal("append(-1 ...)", x.append(-1, -1, -1, -1, -1), 20);
    Due.equal("load()", Calls.answer(x, "load"), "throws.IllegalArgumentException");
    Due.equal("errorOffset()", x.errorOffset(), 0);
  }

  private static void truncate() {
    TypeWheelTelegraph x = new TypeWheelTelegraph();
    x.truncate(0);
    Calls.put(x, "delay 2;delay 3;x");
    Due.thrown("truncate(-1)", IllegalArgumentException.class, x, () -> x.truncate(-1));
    Due.thrown("truncate(18)", IllegalArgumentException.class, x, () -> x.truncate(18));
    x.truncate(17);
    x.truncate(8);
    Due.thrown("truncate(9)", IllegalArgumentException.class, x, () -> x.truncate(9));
    Due.equal("append", x.append(0, 0, 0, 0, 0), 28);
    x.truncate(8);
    Due.equal("load()", x.load(), 0);
    Due.equal("lead()", x.lead(), 200);
  }

  private static void load() {
    String text = Sample.IN_STEP.replace("5500", "5620");
    TypeWheelTelegraph x = Sample.sending(text + "message 1 a;lose 7;");
    x.run(150);
    Due.equal("misprints(1)", x.misprints(1), 0);
    Due.equal("lostPulses()", x.lostPulses(), 1);
    Due.equal("worstOffset(1)", x.worstOffset(1), 120);
    x.format(0);
    x.start(1);
    x.nudge(0, 1500);
    x.run(40);
    Due.equal("misprints(0) are more than 2", x.misprints(0) > 2, true);
    x.lose(3);
    x.setCorrection(7);
    Calls.put(x, "wheel 6;message 1 ab/c;message 0 d;");
    Due.equal("load()", x.load(), 3);
    Due.equal("the formatted text", x.formattedCharacter(0), '0');
    TypeWheelTelegraph same = Sample.of("wheel 6;message 1 ab/c;message 0 d;");
    Due.equal("after a load", restOf(x), restOf(same));
    x.start(1);
    same.start(1);
    x.run(100);
    same.run(100);
    Due.equal("100 ticks after a load", restOf(x), restOf(same));
    x.undo();
    x.undo();
    Due.equal("setCorrection(0)", x.setCorrection(0), 200);
    x.undo();
    Due.thrown("undo()", IllegalStateException.class, x, x::undo);
    Due.equal("append", x.append(0, 0, 0, 0, 0), 20);
    for (int left = 20; left > 0; left--) {
      x.lose(1);
    }
    Due.thrown("lose(1)", IllegalStateException.class, x, () -> x.lose(1));
  }

  /** What can be watched, but for the formatted text. */
  private static String restOf(TypeWheelTelegraph x) {
    return Calls.watch(x).replaceAll("formattedCharacter.*", "");
  }

  private static void failedLoad() {
    TypeWheelTelegraph x = Sample.sending(Sample.IN_STEP);
    x.run(15);
    String before = Calls.watch(x);
    Calls.put(x, "wheel 9;office 1 11;office 2 22;lose 1;message 0 a;message 1 b;mess");
    Due.equal("load()", Due.nameOfThrown(x::load), "IllegalArgumentException");
    Due.equal("errorOffset()", x.errorOffset(), 63);
    String after = Calls.watch(x).replace("errorOffset[]=63", "errorOffset[]=-1");
    Due.equal("the state after a failed load", after, before);
    Due.equal("append: the buffer is empty", x.append(0, 0, 0, 0, 0), 20);
    Due.equal("undo()", x.undo(), 1);
    Due.equal("undo()", x.undo(), 0);
    Due.equal("sender()", x.sender(), -1);
    Due.equal("errorOffset() is not undone", x.errorOffset(), 63);
    Due.equal("the buffer is not undone", x.append(0, 0, 0, 0, 0), 40);
  }

  private static void manyLoads() {
    TypeWheelTelegraph x = new TypeWheelTelegraph();
    for (int times = 0; times < 5; times++) {
      right(x, "wheel 6;message 0 ab1;message 1 3;", 2);
      Due.equal("pulses", Sample.pulses(x, 0, 0), "2 3 1 3 1 2");
      right(x, "message 0 c;", 1);
      Due.equal("pulses", Sample.pulses(x, 0, 0), "4 0 3");
      Due.equal("lineCount(1)", x.lineCount(1), 0);
    }
  }

  private static void errorOffset() {
    TypeWheelTelegraph x = new TypeWheelTelegraph();
    Due.equal("errorOffset()", x.errorOffset(), -1);
    wrongAt(x, "delay", 5);
    Calls.put(x, "x");
    Due.equal("errorOffset()", x.errorOffset(), 5);
    x.truncate(0);
    right(x, "", 0);
    Due.equal("errorOffset()", x.errorOffset(), -1);
  }

  private static void statements() {
    TypeWheelTelegraph x = new TypeWheelTelegraph();
    right(x, " \n ", 0);
    right(x, "wheel 6;", 0);
    Due.equal("positions()", x.positions(), 6);
    right(x, "\n wheel\n6 ; ", 0);
    right(x, "wheel6;office0 10;office 1 999;lose1;", 0);
    Due.equal("rate(1)", x.rate(1), 999);
    right(x, "delay 1;correct 0;guard 1;retries 0;", 0);
    Due.equal("positions()", x.positions(), 28);
    right(x, "wheel 6;office 3 17;", 0);
    Due.equal("phase(0)", x.phase(0), 3);
    Due.equal("rate(0)", x.rate(0), 17);
    Due.equal("phase(1)", x.phase(1), 0);
    Due.equal("rate(1)", x.rate(1), 100);
    wrongAt(x, ";", 0);
    wrongAt(x, "/", 0);
    wrongAt(x, " 5;", 1);
    wrongAt(x, "abc 5;", 0);
    wrongAt(x, "wheels 6;", 0);
    wrongAt(x, "whee 6;", 0);
    wrongAt(x, "wheel", 5);
    wrongAt(x, "wheel \n", 7);
    wrongAt(x, "wheel 6", 7);
    wrongAt(x, "wheel 6 7;", 8);
    wrongAt(x, "wheel ;", 6);
    wrongAt(x, "wheel six;", 6);
    wrongAt(x, "wheel 6;;", 8);
    wrongAt(x, "delay 2;wheel 6;", 8);
    wrongAt(x, "wheel 6;wheel 6;", 8);
    wrongAt(x, "office 0;", 8);
    wrongAt(x, "office 0 10;office 0 10; office 0 10;", 25);
    wrongAt(x, "delay correct 5;", 6);
    wrongAt(x, "guard retries 5;", 6);
    wrongAt(x, "correct delay 5;", 8);
    wrongAt(x, "lose 1 2;", 7);
    String losses = "lose 1;".repeat(20);
    right(x, losses, 0);
    wrongAt(x, losses + " lose 1;", 141);
  }

  private static void numbersOutOfRange() {
    TypeWheelTelegraph x = new TypeWheelTelegraph();
    range(x, "wheel ", 6, 28, ";");
    range(x, "office ", 0, 27999, " 10;");
    range(x, "wheel 6;office ", 0, 5999, " 10;");
    range(x, "office 0 ", 10, 999, ";");
    range(x, "office 0 10;office 0 ", 10, 999, ";");
    range(x, "delay ", 1, 50, ";");
    range(x, "correct ", 0, 500, ";");
    range(x, "guard ", 1, 5000, ";");
    range(x, "retries ", 0, 9, ";");
    range(x, "lose ", 1, 9999, ";");
    range(x, "message ", 0, 1, "a/b;");
    wrongAt(x, "office 99999 10;", 7);
  }

  private static void range(TypeWheelTelegraph x, String before, int low, int high, String behind) {
    int lines = before.equals("message ") ? 2 : 0;
    right(x, before + low + behind, lines);
    right(x, before + high + behind, lines);
    wrongAt(x, before + (high + 1) + behind, before.length());
    if (low > 0) {
      wrongAt(x, before + (low - 1) + behind, before.length());
    }
  }

  private static void messages() {
    TypeWheelTelegraph x = new TypeWheelTelegraph();
    right(x, "message 0 wheel office message 5/lose;message 01 7 /;message 0 abc;", 5);
    Due.equal("lineCount(0)", x.lineCount(0), 3);
    Due.equal("lineLength(0, 0)", x.lineLength(0, 0), 19);
    Due.equal("lineLength(0, 2)", x.lineLength(0, 2), 3);
    Due.equal("lineLength(1, 1)", x.lineLength(1, 1), 0);
    wrongAt(x, "message a;", 8);
    wrongAt(x, "message 0;", 9);
    wrongAt(x, "message 0 ", 10);
    wrongAt(x, "message 0 a", 11);
    wrongAt(x, "message 0 a-b;", 11);
    wrongAt(x, "message 0 a message 1 b", 23);
    right(x, "message 0 az;", 1);
    right(x, "wheel 6;message 0 abcd0123;", 1);
    wrongAt(x, "wheel 6;message 0 abcd abce;", 23);
    wrongAt(x, "wheel 6;message 0 0123 1234;", 23);
    right(x, "wheel 12;message 0 9j;", 1);
    wrongAt(x, "wheel 12;message 0 k;", 19);
    wrongAt(x, "wheel 11;message 0 9;", 19);
    right(x, "message 0 " + THIRTY + "/" + THIRTY + ";", 2);
    Due.equal("lineLength(0, 1)", x.lineLength(0, 1), 30);
    wrongAt(x, "message 0 " + THIRTY + "g;", 36);
    wrongAt(x, "message 0 " + THIRTY + " 1;", 43);
    wrongAt(x, "message 0 " + THIRTY + " /" + THIRTY + " a;", 77);
    right(x, TWELVE_LINES, 12);
    wrongAt(x, "message 0 ///////////a/ ;", 22);
    right(x, TWELVE_LINES + "message 1 ///////////a;", 24);
    wrongAt(x, TWELVE_LINES + "message 0 a;", 30);
    wrongAt(x, TWELVE_LINES + "message 2 a;", 30);
  }

  private static void tokens() {
    TypeWheelTelegraph x = new TypeWheelTelegraph();
    right(x, "message 0 abcdefghijkl;", 1);
    wrongAt(x, "message 0 abcdefghijklm;", 10);
    right(x, "message 0 12345a12345;", 1);
    wrongAt(x, "message 0 123456;", 10);
    right(x, "delay 00002;", 0);
    wrongAt(x, "delay 000002;", 6);
    wrongAt(x, "delay\t2;", 5);
    wrongAt(x, "delay\r2;", 5);
    wrongAt(x, "Delay 2;", 0);
    wrongAt(x, "delay 2;\u0000", 8);
    wrongAt(x, "delay 2;\u00e9", 8);
    wrongAt(x, "delay 2;`", 8);
    wrongAt(x, "delay 2;{", 8);
    wrongAt(x, "delay 2:", 7);
    wrongAt(x, "message 0 a.b;", 11);
    right(x, "delay 2;" + "\n".repeat(592), 0);
    wrongAt(x, "delay 2;" + " ".repeat(591) + "a", 599);
    wrongAt(x, "delay 2" + " ".repeat(593), 600);
  }

  private static void lastStatementCounts() {
    TypeWheelTelegraph x = new TypeWheelTelegraph();
    right(x, "delay 3;correct 9;delay 2;correct 8;", 0);
    Due.equal("lead()", x.lead(), 200);
    Due.equal("setCorrection(0)", x.setCorrection(0), 8);
    right(x, "delay 2;", 0);
    Due.equal("lead()", x.lead(), 200);
    Due.equal("setCorrection(0)", x.setCorrection(0), 200);
    String text = Sample.IN_STEP + "retries 0;guard 40;lose 4;lose 4;";
    x = Sample.sending(text);
    Due.equal("runUntilDone(200)", x.runUntilDone(200), 94);
    Due.equal("events", Sample.events(x), "62,4,0 93,1,1 94,6,0");
    Due.equal("lostPulses()", x.lostPulses(), 1);
  }

  private static void right(TypeWheelTelegraph x, String text, int lines) {
    Calls.put(x, text);
    Due.equal("load() of " + text.trim(), Calls.answer(x, "load"), lines);
    Due.equal("errorOffset()", x.errorOffset(), -1);
  }

  private static void wrongAt(TypeWheelTelegraph x, String text, int offset) {
    Calls.put(x, text);
    Due.equal("load() of " + text, Calls.answer(x, "load"), "throws.IllegalArgumentException");
    Due.equal("errorOffset() of " + text, x.errorOffset(), offset);
  }
}
