/** Compares answers with those that are due; of long ones it tells the first wrong line. */
final class Due {
  private static int asked = 0;
  private static int wrong = 0;
  private static int sentences = 0;
  private static String place = "";

  interface Call {
    void make();
  }

  private Due() {}

  /** The answers from here on hold to this sentence, which must stand in the document's section. */
  static void sentence(String section, String words) {
    place = "";
    equal("\"" + words + "\" stands in " + section, Document.says(section, words), true);
    Document.cite(section, words);
    place = "[" + section + ": " + words + "] ";
    sentences++;
  }

  static void equal(String what, Object got, Object want) {
    asked++;
    if (String.valueOf(got).equals(String.valueOf(want))) {
      return;
    }
    wrong++;
    String[] gotLines = String.valueOf(got).split("\n");
    String[] wantLines = String.valueOf(want).split("\n");
    int line = 0;
    while (line < gotLines.length - 1
        && line < wantLines.length - 1
        && gotLines[line].equals(wantLines[line])) {
      line++;
    }
    System.out.println(
        place + what + " answered " + gotLines[line] + ", due is " + wantLines[line]);
  }

  /** The call throws just this exception, and changes nothing that can be seen. */
  static void thrown(
      String what, Class<? extends RuntimeException> type, TypeWheelTelegraph x, Call call) {
    String before = Calls.watch(x);
    equal(what, nameOfThrown(call), type.getSimpleName());
    equal(what + ": the state behind it", Calls.watch(x), before);
  }

  static String nameOfThrown(Call call) {
    try {
      call.make();
      return "nothing";
    } catch (RuntimeException e) {
      return e.getClass().getSimpleName();
    }
  }

  static void end(String test) {
    String cited = sentences == 0 ? "" : ", for " + sentences + " sentences of the document";
    System.out.println(
        test + ": " + (asked - wrong) + " of " + asked + " answers are as due" + cited);
    if (wrong > 0) {
      System.exit(1);
    }
  }
}
