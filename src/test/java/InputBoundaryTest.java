/** The boundaries of promises 1 to 5, and of the 512 calls of an object, sentence by sentence. */
public final class InputBoundaryTest {
  private static final Class<?> NO_VALUE = IllegalArgumentException.class;
  private static final Class<?> NO_STATE = IllegalStateException.class;
  private static final int BLANKS = 0x20202020;

  public static void main(String[] args) {
    newObject();
    twentyBytes();
    newLength();
    appendRefused();
    truncated();
    truncateLength();
    truncateRefused();
    loaded();
    loadedAgain();
    emptyBuffer();
    formattedTextStays();
    numberOfLines();
    loadRefused();
    errorOffset();
    none();
    manyCalls();
    Due.end("InputBoundaryTest");
  }

  private static void newObject() {
    Due.sentence(
        "Promise 1",
        "Creates a telegraph as an empty text defines it, with an empty input buffer.");
    TypeWheelTelegraph x = new TypeWheelTelegraph();
    TypeWheelTelegraph y = new TypeWheelTelegraph();
    Due.equal("load() of the empty text", y.load(), 0);
    Due.equal("a new object", Calls.watch(x), Calls.watch(y));
    Due.equal("the buffer", Loads.bufferLength(x), 0);
    Twins.refuse(TypeWheelTelegraph::new, NO_VALUE, "truncate", 1);
    Twins.refuse(TypeWheelTelegraph::new, NO_STATE, "undo");
    x.run(20);
    y.run(20);
    Due.equal("20 ticks later", Calls.watch(x), Calls.watch(y));
  }

  private static void twentyBytes() {
    Due.sentence(
        "Promise 2",
        "Appends 20 bytes to the input buffer: the four bytes of each parameter in turn, the most"
            + " significant byte first.");
    // Each byte in its turn is the one that ends a text of 20 bytes with another line.
    for (int place = 0; place < 20; place++) {
      int[] words = {BLANKS, BLANKS, BLANKS, BLANKS, BLANKS};
      int shift = 24 - 8 * (place % 4);
      words[place / 4] = (BLANKS & ~(255 << shift)) | ('+' << shift);
      TypeWheelTelegraph x = new TypeWheelTelegraph();
      Due.equal("append", x.append(words[0], words[1], words[2], words[3], words[4]), 20);
      Due.equal("load()", Calls.answer(x, "load"), "throws.IllegalArgumentException");
      Due.equal("errorOffset()", x.errorOffset(), place);
    }
    for (int word : new int[] {0, -1, Integer.MIN_VALUE, Integer.MAX_VALUE, 0x00ffff00}) {
      TypeWheelTelegraph x = new TypeWheelTelegraph();
      Due.equal("append", x.append(BLANKS, BLANKS, BLANKS, BLANKS, word), 20);
      Due.equal("load()", Calls.answer(x, "load"), "throws.IllegalArgumentException");
      Due.equal("errorOffset() with " + word, x.errorOffset(), 16);
    }
  }

  private static void newLength() {
    Due.sentence("Promise 2", "Returns the new length of the buffer.");
    TypeWheelTelegraph x = new TypeWheelTelegraph();
    for (int length = 20; length <= 600; length += 20) {
      Due.equal("append", x.append(BLANKS, BLANKS, BLANKS, BLANKS, BLANKS), length);
    }
    x.truncate(579);
    Due.equal("append", x.append(BLANKS, BLANKS, BLANKS, BLANKS, BLANKS), 599);
    Due.equal("load()", x.load(), 0);
    Due.equal("append", x.append(BLANKS, BLANKS, BLANKS, BLANKS, BLANKS), 20);
  }

  private static void appendRefused() {
    Due.sentence("Promise 2", "Throws `IllegalStateException` if the length would exceed 600");
    TypeWheelTelegraph x = withBuffer(580);
    Due.equal("append to 580", x.append(0, 0, 0, 0, 0), 600);
    Twins.refuseInput(() -> withBuffer(581), NO_STATE, "append", 0, 0, 0, 0, 0);
    Twins.refuseInput(() -> withBuffer(599), NO_STATE, "append", 0, 0, 0, 0, 0);
    Twins.refuseInput(() -> withBuffer(600), NO_STATE, "append", 0, 0, 0, 0, 0);
  }

  /** A telegraph at work, with a legal text of this length in the input buffer. */
  private static TypeWheelTelegraph withBuffer(int length) {
    TypeWheelTelegraph x = Sample.sending(Sample.IN_STEP);
    x.run(5);
    x.format(1);
    String text = "message 1 az/z;";
    String blanks = " ".repeat(600);
    Calls.put(x, (length < text.length() ? blanks : text + blanks).substring(0, length));
    return x;
  }

  private static void truncated() {
    Due.sentence("Promise 3", "Shortens the input buffer.");
    TypeWheelTelegraph x = withBuffer(600);
    x.truncate(600);
    Due.equal("append to 600", Calls.answer(x, "append", 0, 0, 0, 0, 0),
        "throws.IllegalStateException");
    x.truncate(580);
    Due.equal("append to 580", x.append(0, 0, 0, 0, 0), 600);
    x.truncate(15);
    Due.equal("append: what was cut off is gone", x.append(BLANKS, BLANKS, 0, 0, 0), 35);
    x.truncate(23);
    Due.equal("load()", x.load(), 2);
    x = withBuffer(15);
    x.truncate(14);
    Due.equal("load()", Calls.answer(x, "load"), "throws.IllegalArgumentException");
    Due.equal("errorOffset()", x.errorOffset(), 14);
    x = withBuffer(15);
    x.truncate(0);
    x.truncate(0);
    Due.equal("load()", x.load(), 0);
  }

  private static void truncateLength() {
    Due.sentence("Promise 3", "- `length`: the new length, 0 to the current length");
    for (int length : new int[] {0, 1, 15, 599, 600}) {
      for (int shorter : new int[] {0, Math.max(0, length - 1), length}) {
        TypeWheelTelegraph x = withBuffer(length);
        x.truncate(shorter);
        String longer = Calls.answer(x, "truncate", shorter + 1);
        Due.equal("truncate(" + (shorter + 1) + ")", longer, "throws.IllegalArgumentException");
        x.truncate(shorter);
      }
      TypeWheelTelegraph x = withBuffer(length);
      x.truncate(length);
      Due.equal("load()", x.load(), length < 15 ? 0 : 2);
    }
  }

  private static void truncateRefused() {
    Due.sentence("Promise 3", "Throws `IllegalArgumentException` if length is out of range");
    for (int length : new int[] {0, 1, 15, 599, 600}) {
      for (int wrong : new int[] {-1, Integer.MIN_VALUE, length + 1, 601, Integer.MAX_VALUE}) {
        Twins.refuseInput(() -> withBuffer(length), NO_VALUE, "truncate", wrong);
      }
    }
  }

  private static void loaded() {
    Due.sentence(
        "Promise 4",
        "Parses the input buffer and replaces the telegraph by what it describes: the time is 0,"
            + " there is no sender, nothing is under way, no lines are done, all statistics are 0,"
            + " there are no events, and no action can be undone.");
    String[] texts = {"", "wheel 6;", Sample.IN_STEP, "lose 1;message 1 b;guard 3;delay 50;"};
    for (String text : texts) {
      TypeWheelTelegraph x = worn();
      Calls.put(x, text);
      int lines = x.load();
      TypeWheelTelegraph y = Sample.of(text);
      Due.equal("load()", lines, y.lineCount(0) + y.lineCount(1));
      Due.equal("after the load of " + text, unformatted(x), unformatted(y));
      Due.equal("undo()", Calls.answer(x, "undo"), "throws.IllegalStateException");
      String start = Calls.answer(y, "start", 0);
      Due.equal("start(0)", Calls.answer(x, "start", 0), start);
      x.run(500);
      y.run(500);
      Due.equal("500 ticks after the load of " + text, unformatted(x), unformatted(y));
    }
  }

  /** A telegraph that has sent, lost, printed wrongly, repeated, and is sending. */
  private static TypeWheelTelegraph worn() {
    String text = Sample.IN_STEP.replace("5500", "4620") + "lose 5;message 1 a;delay 3;";
    TypeWheelTelegraph x = Sample.sending(text);
    x.run(100);
    x.breakIn();
    x.run(3);
    Due.equal("linesDone(0) is 0 before load()", x.linesDone(0) == 0, false);
    Due.equal("receivedLength(1) is 0 before load()", x.receivedLength(1) == 0, false);
    x.nudge(1, 1700);
    x.setCorrection(9);
    x.setRate(0, 333);
    x.format(0);
    x.start(1);
    x.run(90);
    x.lose(20);
    x.breakIn();
    for (String name : new String[] {"eventCount", "underWay", "lostPulses", "time"}) {
      Due.equal(name + " is 0 before load()", Calls.answer(x, name).equals("0"), false);
    }
    for (String name : new String[] {"prints", "misprints", "worstOffset", "meanOffset"}) {
      Due.equal(name + " is 0 before load()", Calls.answer(x, name, 0).matches("0|0.0"), false);
    }
    return x;
  }

  private static void loadedAgain() {
    Due.sentence("Promise 4", "Parses the input buffer and replaces the telegraph by what it");
    // Nothing of a text before comes back, however many loads there were.
    TypeWheelTelegraph x = new TypeWheelTelegraph();
    String full = "lose 1;".repeat(20) + "message 0 ///////////z9;message 1 z9/z9;office 9 99;";
    String[] texts = {full, "wheel 6;message 1 a;", "", full, "message 0 1a/;lose 3;", full, full};
    for (String text : texts) {
      Calls.put(x, text);
      x.load();
      TypeWheelTelegraph y = Sample.of(text);
      Due.equal("after the load of " + text, Calls.watch(x), Calls.watch(y));
      for (int named = 0; named <= 20; named++) {
        Due.equal("lose(1)", Calls.answer(x, "lose", 1), Calls.answer(y, "lose", 1));
      }
    }
  }

  private static String unformatted(TypeWheelTelegraph x) {
    return Calls.watch(x).replaceAll("formattedCharacter.*", "");
  }

  private static void emptyBuffer() {
    Due.sentence("Promise 4", "The buffer is empty afterwards, also on an error.");
    TypeWheelTelegraph x = withBuffer(600);
    Due.equal("load()", x.load(), 2);
    Due.equal("truncate(1)", Calls.answer(x, "truncate", 1), "throws.IllegalArgumentException");
    Due.equal("append", x.append(-1, 0, 0, 0, 0), 20);
    Due.equal("load()", Calls.answer(x, "load"), "throws.IllegalArgumentException");
    Due.equal("truncate(1)", Calls.answer(x, "truncate", 1), "throws.IllegalArgumentException");
    Due.equal("load() of the empty buffer", x.load(), 0);
  }

  private static void formattedTextStays() {
    Due.sentence("Promise 4", "The formatted text stays.");
    TypeWheelTelegraph x = Sample.sending(Sample.IN_STEP);
    int length = x.format(0);
    for (String text : new String[] {"", "wheel 7;", "wheel 5;"}) {
      Calls.put(x, text);
      Calls.answer(x, "load");
      Due.equal("formattedCharacter(0)", x.formattedCharacter(0), '0');
      Due.equal("the last one", x.formattedCharacter(length - 1), '0');
      String behind = Calls.answer(x, "formattedCharacter", length);
      Due.equal("the one behind it", behind, "throws.IndexOutOfBoundsException");
    }
  }

  private static void numberOfLines() {
    Due.sentence("Promise 4", "Returns the number of lines of both offices.");
    Loads.accepted("", 0);
    Loads.accepted("message 1 /;", 2);
    Loads.accepted("message 0 a;message 1 a;", 2);
    Loads.accepted("message 0 ///////////;message 1 ///////////;", 24);
  }

  private static void loadRefused() {
    Due.sentence(
        "Promise 4",
        "Throws `IllegalArgumentException` if the text does not match; the telegraph stays as it"
            + " is");
    String[] texts = {
      "+",
      "wheel 5;",
      "wheel 9;office 9 99;office 9 99;delay 9;correct 9;guard 9;retries 9;lose 9;message 0 a;+",
      "message 1 a/b/c/d;message 0 a/b/c/d;message 1 z"
    };
    for (String text : texts) {
      TypeWheelTelegraph x = worn();
      String before = afterwards(x);
      x = worn();
      Calls.put(x, text);
      Due.equal("load()", Calls.answer(x, "load"), "throws.IllegalArgumentException");
      Due.equal("the telegraph after " + text, afterwards(x), before);
    }
  }

  /** All that follows, but for the error offset; the trials show the hidden state too. */
  private static String afterwards(TypeWheelTelegraph x) {
    StringBuilder seen = new StringBuilder(Calls.watch(x));
    seen.append(x.misprintsIn(200)).append(' ').append(x.ticksUntilDone(900)).append('\n');
    for (int left = 9; left >= 0; left--) {
      seen.append(Calls.answer(x, "undo")).append('\n').append(Calls.watch(x));
    }
    x.run(400);
    seen.append(Calls.watch(x)).append(x.setCorrection(1));
    return seen.toString().replaceAll("errorOffset.*", "");
  }

  private static void errorOffset() {
    Due.sentence(
        "Promise 5",
        "Returns the error offset of the latest call of load(); NONE if that call succeeded or if"
            + " there was none.");
    TypeWheelTelegraph x = new TypeWheelTelegraph();
    Due.equal("errorOffset()", x.errorOffset(), TypeWheelTelegraph.NONE);
    Calls.put(x, "+");
    Due.equal("errorOffset() before load()", x.errorOffset(), TypeWheelTelegraph.NONE);
    Calls.answer(x, "load");
    Due.equal("errorOffset()", x.errorOffset(), 0);
    Calls.put(x, "delay" + " ".repeat(595));
    Due.equal("errorOffset() before load()", x.errorOffset(), 0);
    Calls.answer(x, "load");
    Due.equal("errorOffset()", x.errorOffset(), 600);
    x.append(0, 0, 0, 0, 0);
    x.truncate(0);
    x.run(1);
    x.undo();
    Due.equal("errorOffset()", x.errorOffset(), 600);
    x.load();
    Due.equal("errorOffset()", x.errorOffset(), TypeWheelTelegraph.NONE);
  }

  private static void none() {
    Due.sentence("The public face", "public static final int NONE = -1;");
    Due.equal("NONE", TypeWheelTelegraph.NONE, -1);
    Due.sentence(
        "ACTIONS AND EXCEPTIONS",
        "- `NONE = -1`: The value -1, returned where there is no result.");
    TypeWheelTelegraph x = new TypeWheelTelegraph();
    Due.equal("errorOffset()", x.errorOffset(), -1);
    Due.equal("slowestLine(0)", x.slowestLine(0), -1);
    Due.equal("sender()", x.sender(), -1);
    Due.equal("nextPulseIn()", x.nextPulseIn(), -1);
    Due.equal("ticksUntilDone(1)", Sample.sending(Sample.IN_STEP).ticksUntilDone(1), -1);
  }

  private static void manyCalls() {
    Due.sentence(
        "What it is",
        "An object is used for at most 512 calls after it has been made; what later calls answer"
            + " is free.");
    TypeWheelTelegraph x = new TypeWheelTelegraph();
    // "delay 50;message0 abc;": the first pulse is sent at 20.
    x.append(0x64656c61, 0x79203530, 0x3b6d6573, 0x73616765, 0x30206162);
    x.append(0x633b2020, BLANKS, BLANKS, BLANKS, BLANKS);
    x.load();
    x.start(0);
    x.run(20);
    for (int call = 6; call < 511; call++) {
      Due.equal("breakIn()", x.breakIn(), 70);
    }
    Due.equal("underWay() with a pulse", x.underWay(), 506);
    x.run(50);
    Due.equal("underWay()", x.underWay(), 0);
    Due.equal("eventCount(): the first break ends it", x.eventCount(), 1);

    TypeWheelTelegraph undone = new TypeWheelTelegraph();
    for (int call = 0; call < 502; call++) {
      undone.nudge(0, 1);
    }
    for (int left = 9; left >= 0; left--) {
      Due.equal("undo()", undone.undo(), left);
    }
    Due.equal("phase(0)", undone.phase(0), 492);
  }
}
