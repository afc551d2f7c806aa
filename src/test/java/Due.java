/** Compares answers with those that are due; of long ones it tells the first wrong line. */
final class Due {
  private static int asked = 0;
  private static int wrong = 0;

  interface Call {
    void make();
  }

  private Due() {}

  static void equal(String what, Object got, Object want) {
    asked++;
    if (String.valueOf(got).equals(String.valueOf(want))) {
      return;
    }
    wrong++;
    String[] gotLines = String.valueOf(got).split("\n");
    String[] wantLines = String.valueOf(want).split("\n");
    int line = 0;
    while (line < gotLines.length - 1
        && line < wantLines.length - 1
        && gotLines[line].equals(wantLines[line])) {
      line++;
    }
    System.out.println(what + " answered " + gotLines[line] + ", due is " + wantLines[line]);
  }

  /** The call throws just this exception, and changes nothing that can be seen. */
  static void thrown(
      String what, Class<? extends RuntimeException> type, TypeWheelTelegraph x, Call call) {
    String before = Calls.watch(x);
    equal(what, nameOfThrown(call), type.getSimpleName());
    equal(what + ": the state behind it", Calls.watch(x), before);
  }

  static String nameOfThrown(Call call) {
    try {
      call.make();
      return "nothing";
    } catch (RuntimeException e) {
      return e.getClass().getSimpleName();
    }
  }

  static void end(String test) {
    System.out.println(test + ": " + (asked - wrong) + " of " + asked + " answers are as due");
    if (wrong > 0) {
      System.exit(1);
    }
  }
}
