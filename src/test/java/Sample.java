/** Telegraphs for the tests. */
final class Sample {
  /**
   * A wheel turns once in 12 ticks; the offices are in step, so that each print has the offset 0.
   * Line 0 is sent by 2 5 0 4 at 4, 10, 12, 20; line 1 then by 1 3 1 4 at 26, 30, 38, 44.
   */
  static final String IN_STEP =
      "wheel 6;office 0 500;office 5500 500;guard 50;retries 1;correct 100;message 0 ad/1;";

  private Sample() {}

  static TypeWheelTelegraph of(String text) {
    TypeWheelTelegraph x = new TypeWheelTelegraph();
    Calls.put(x, text);
    x.load();
    return x;
  }

  /** Office 0 is sending already. */
  static TypeWheelTelegraph sending(String text) {
    TypeWheelTelegraph x = of(text);
    x.start(0);
    return x;
  }

  /** Office 0 is sending, and all that it sends is printed with the offset 0. */
  static TypeWheelTelegraph sendingInStep(String text) {
    TypeWheelTelegraph x = of(text);
    x.nudge(1, -x.lead());
    x.start(0);
    return x;
  }

  /** Lets time pass; no ticks and more than 2000 are all right here. */
  static void pass(TypeWheelTelegraph x, int ticks) {
    for (int left = ticks; left > 0; left -= 2000) {
      x.run(Math.min(left, 2000));
    }
  }

  static String received(TypeWheelTelegraph x, int office) {
    StringBuilder text = new StringBuilder();
    for (int i = 0; i < x.receivedLength(office); i++) {
      text.append(x.receivedCharacter(office, i));
    }
    return text.toString();
  }

  static String buffer(TypeWheelTelegraph x) {
    StringBuilder text = new StringBuilder();
    for (int i = 0; i < x.bufferLength(); i++) {
      text.append(x.bufferCharacter(i));
    }
    return text.toString();
  }

  /** Each event as time,code,value. */
  static String events(TypeWheelTelegraph x) {
    StringBuilder text = new StringBuilder();
    for (int i = 0; i < x.eventCount(); i++) {
      text.append(i == 0 ? "" : " ").append(x.event(i, 0)).append(',');
      text.append(x.event(i, 1)).append(',').append(x.event(i, 2));
    }
    return text.toString();
  }

  static String pulses(TypeWheelTelegraph x, int office, int line) {
    StringBuilder text = new StringBuilder();
    for (int i = 0; i < x.pulsesOf(office, line); i++) {
      text.append(i == 0 ? "" : " ").append(x.pulseOf(office, line, i));
    }
    return text.toString();
  }

  /**
   * A telegraph in the midst of it: pulses and a break are under way, it has three actions more
   * than can be undone, a formatted text, an error offset and an input buffer.
   */
  static TypeWheelTelegraph busy() {
    TypeWheelTelegraph x = sending(IN_STEP.replace("5500", "4620") + "message 1 b;delay 3;lose 3;");
    for (int action = 1; action <= 9; action++) {
      x.nudge(0, 0);
    }
    x.run(11);
    x.setCorrection(40);
    x.breakIn();
    Calls.put(x, "delay 2;message 0;");
    Calls.answer(x, "load");
    Calls.put(x, "delay 7;message 0 a;");
    x.format(1);
    return x;
  }
}
