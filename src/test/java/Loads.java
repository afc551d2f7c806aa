/** Loads texts that are to be accepted or refused. */
final class Loads {
  private Loads() {}

  static TypeWheelTelegraph accepted(String text, int lines) {
    TypeWheelTelegraph x = new TypeWheelTelegraph();
    accepted(x, text, lines);
    return x;
  }

  static void accepted(TypeWheelTelegraph x, String text, int lines) {
    Calls.put(x, text);
    Due.equal("load() of " + shown(text), Calls.answer(x, "load"), lines);
    Due.equal("errorOffset() of " + shown(text), x.errorOffset(), -1);
    Due.equal("the buffer after " + shown(text), bufferLength(x), 0);
  }

  /** The text is refused, and all that changes is the error offset and the buffer. */
  static void refused(String text, int offset) {
    TypeWheelTelegraph x = Sample.sending(Sample.IN_STEP);
    x.run(5);
    String before = stateOf(x);
    Calls.put(x, text);
    Due.equal(
        "load() of " + shown(text), Calls.answer(x, "load"), "throws.IllegalArgumentException");
    Due.equal("errorOffset() of " + shown(text), x.errorOffset(), offset);
    Due.equal("the state after " + shown(text), stateOf(x), before);
    Due.equal("the buffer after " + shown(text), bufferLength(x), 0);
    Due.equal("undo() after " + shown(text), Calls.answer(x, "undo"), 1);
  }

  /** The number is accepted from low to high, and refused on both sides of the range. */
  static void range(String before, int low, int high, String behind, int lines) {
    accepted(before + low + behind, lines);
    accepted(before + (low + 1) + behind, lines);
    accepted(before + (high - 1) + behind, lines);
    accepted(before + high + behind, lines);
    refused(before + (high + 1) + behind, before.length());
    refused(before + 99999 + behind, before.length());
    if (low > 0) {
      refused(before + (low - 1) + behind, before.length());
    }
  }

  static int bufferLength(TypeWheelTelegraph x) {
    int length = x.append(0, 0, 0, 0, 0) - 20;
    x.truncate(length);
    return length;
  }

  private static String stateOf(TypeWheelTelegraph x) {
    return Calls.watch(x).replaceFirst("errorOffset.*", "");
  }

  private static String shown(String text) {
    String trimmed = text.replace('\n', '~').trim();
    return trimmed.length() > 90 ? trimmed.substring(0, 90) + ".." : trimmed;
  }
}
