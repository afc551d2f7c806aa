/** The sentences of the promises that name no boundary. */
public final class PromiseTest {
  /** A wheel turns once in 12 ticks, and passes position p in tick 2 * p of each circle. */
  private static final String WHEELS = "wheel 6;office 0 500;office 5500 500;";

  public static void main(String[] args) {
    character();
    lead();
    lineLength();
    pulseOf();
    run();
    start();
    breakIn();
    setRate();
    nudge();
    setCorrection();
    lose();
    undo();
    format();
    Due.end("PromiseTest");
  }

  private static void character() {
    Due.sentence("Promise 11", "Returns the letter or the figure of a position.");
    Due.sentence("Promise 11", "- `figures`: true for the figure, false for the letter");
    String letters = "abcdefghijklmnopqrstuvwxyz";
    String figures = "0123456789.,:;?!+-=()*'\"_@";
    for (int positions = 6; positions <= 28; positions++) {
      TypeWheelTelegraph x = Sample.of("wheel " + positions + ";");
      for (int position = 2; position < positions; position++) {
        String of = "of " + position;
        Due.equal("the letter " + of, x.character(position, false), letters.charAt(position - 2));
        Due.equal("the figure " + of, x.character(position, true), figures.charAt(position - 2));
      }
    }
  }

  private static void lead() {
    Due.sentence(
        "Promise 12",
        "Returns by how much the wheel of the other office is ahead of the sender's wheel as seen"
            + " by pulses: the phase of office 1 at the arrival of a pulse that office 0 would send"
            + " in this tick without any change until then, minus the phase of office 0 now;");
    leadOf("", 1, 100);
    leadOf("office 300 90;office 200 80;", 7, 460);
    leadOf("wheel 9;office 8999 10;office 0 999;", 50, -4049);
    leadOf("wheel 6;office 0 100;office 2699 100;", 3, 2999);
    leadOf("wheel 6;office 0 100;office 2900 100;", 1, -3000);
  }

  private static void leadOf(String text, int delay, int due) {
    TypeWheelTelegraph x = Sample.of(text + "delay " + delay + ";");
    int lead = x.lead();
    Due.equal("lead() of " + text, lead, due);
    int phase = x.phase(0);
    x.run(delay);
    int circle = 1000 * x.positions();
    Due.equal("phase(1) at the arrival", x.phase(1), Math.floorMod(phase + lead, circle));
  }

  private static void lineLength() {
    Due.sentence("Promise 15", "Returns the number of characters of the line.");
    TypeWheelTelegraph x = Sample.of("message 0 ab 12/c3//z;message 1 /9;");
    int[][] due = {{4, 2, 0, 1}, {0, 1}};
    for (int office = 0; office < 2; office++) {
      for (int line = 0; line < due[office].length; line++) {
        Due.equal("lineLength", x.lineLength(office, line), due[office][line]);
      }
    }
  }

  private static void pulseOf() {
    Due.sentence("Promise 17", "Returns the position that is sent by that pulse of the line.");
    TypeWheelTelegraph x = Sample.of("message 0 ab 12/c3//z;message 1 /9;");
    Due.equal("the line ab12", Sample.pulses(x, 0, 0), "2 3 1 3 4 1 7");
    Due.equal("the line c3", Sample.pulses(x, 0, 1), "4 1 5 1 5");
    Due.equal("the empty line", Sample.pulses(x, 0, 2), "0 2");
    Due.equal("the line z", Sample.pulses(x, 0, 3), "27 0 3");
    Due.equal("the empty line", Sample.pulses(x, 1, 0), "0 2");
    Due.equal("the line 9", Sample.pulses(x, 1, 1), "1 11 1 4");
  }

  private static void run() {
    Due.sentence("Promise 39", "Makes ticks.");
    TypeWheelTelegraph x = Sample.sending(WHEELS + "message 0 b1;lose 3;");
    TypeWheelTelegraph y = Sample.sending(WHEELS + "message 0 b1;lose 3;");
    for (int ticks = 1; ticks <= 40; ticks++) {
      int sent = 0;
      for (int tick = 0; tick < ticks; tick++) {
        sent += y.run(1);
      }
      Due.equal("run(" + ticks + ")", x.run(ticks), sent);
      Due.equal("time()", x.time(), ticks * (ticks + 1) / 2);
      Due.equal("the state behind it", Calls.watch(x), Calls.watch(y));
    }
  }

  private static void start() {
    Due.sentence("Promise 41", "Returns the number of that line.");
    TypeWheelTelegraph x = Sample.of(WHEELS + "message 0 a/b/c;");
    for (int line = 0; line < 3; line++) {
      Due.equal("start(0)", x.start(0), line);
      for (int ticks = 0; ticks < 100 && x.linesDone(0) == line; ticks++) {
        x.run(1);
      }
      if (line < 2) {
        x.breakIn();
        x.run(1);
      }
    }
    Due.equal("received", Sample.received(x, 1), "a/b/c/");
  }

  private static void breakIn() {
    Due.sentence("Promise 42", "Lets the receiver send a break.");
    for (int office = 0; office < 2; office++) {
      TypeWheelTelegraph x = Sample.of(WHEELS + "message 0 a;message 1 a;delay 3;");
      x.start(office);
      x.breakIn();
      Due.equal("underWay()", x.underWay(), 1);
      Due.equal("sender()", x.sender(), office);
      x.run(2);
      Due.equal("sender() before the arrival", x.sender(), office);
      x.run(1);
      Due.equal("sender() at the arrival", x.sender(), -1);
      Due.equal("pulses()", x.pulses(), 0);
      Due.equal("the events", Sample.events(x), "3,5,0");
    }
  }

  private static void setRate() {
    Due.sentence("Promise 43", "Sets the rate of an office.");
    TypeWheelTelegraph x = Sample.of("office 5 70;office 6 80;");
    x.setRate(0, 333);
    x.setRate(1, 444);
    Due.equal("rate(0)", x.rate(0), 333);
    Due.equal("rate(1)", x.rate(1), 444);
    x.run(3);
    Due.equal("phase(0)", x.phase(0), 5 + 3 * 333);
    Due.equal("phase(1)", x.phase(1), 6 + 3 * 444);
    Due.sentence("Promise 43", "Returns the previous rate.");
    x = Sample.of("office 5 70;office 6 80;");
    Due.equal("setRate(0, 10)", x.setRate(0, 10), 70);
    Due.equal("setRate(0, 11)", x.setRate(0, 11), 10);
    Due.equal("setRate(1, 12)", x.setRate(1, 12), 80);
    Due.equal("setRate(1, 12)", x.setRate(1, 12), 12);
  }

  private static void nudge() {
    Due.sentence("Promise 44", "Turns the wheel of an office by hand.");
    TypeWheelTelegraph x = Sample.of("wheel 7;office 100 50;office 200 60;");
    x.nudge(0, 300);
    Due.equal("phase(0)", x.phase(0), 400);
    Due.equal("phase(1)", x.phase(1), 200);
    x.nudge(1, -300);
    Due.equal("phase(0)", x.phase(0), 400);
    Due.equal("phase(1)", x.phase(1), 6900);
    Due.equal("time()", x.time(), 0);
    Due.sentence("Promise 44", "Returns the new phase.");
    Due.equal("nudge(0, 7000)", x.nudge(0, 7000), 400);
    Due.equal("nudge(0, -401)", x.nudge(0, -401), 6999);
    Due.equal("nudge(1, 100)", x.nudge(1, 100), 0);
    Due.equal("nudge(1, 0)", x.nudge(1, 0), 0);
  }

  private static void setCorrection() {
    Due.sentence("Promise 45", "Sets the correction limit.");
    // The print at 7 is 300 ahead.
    for (int limit = 0; limit <= 500; limit += 100) {
      TypeWheelTelegraph x = Sample.sending(WHEELS.replace("5500", "5800") + "message 0 b;");
      x.setCorrection(limit);
      x.run(7);
      Due.equal("phase(1) by " + limit, x.phase(1), 3300 - Math.min(limit, 300));
    }
    Due.sentence("Promise 45", "Returns the previous one.");
    TypeWheelTelegraph x = Sample.of("correct 77;");
    Due.equal("setCorrection(0)", x.setCorrection(0), 77);
    Due.equal("setCorrection(500)", x.setCorrection(500), 0);
    Due.equal("setCorrection(500)", x.setCorrection(500), 500);
    Due.equal("the default", new TypeWheelTelegraph().setCorrection(1), 200);
  }

  private static void lose() {
    Due.sentence("Promise 46", "Names a further pulse that will be lost.");
    // The line is sent by 3 1 3 1 5 at 6, 14, 18, 26, 34.
    TypeWheelTelegraph x = Sample.sending(WHEELS + "message 0 b1;lose 2;");
    x.run(6);
    Due.sentence("Promise 46", "Returns the number of that pulse.");
    Due.equal("lose(2)", x.lose(2), 3);
    Due.equal("lose(3)", x.lose(3), 4);
    x.run(28);
    Due.equal("pulses()", x.pulses(), 5);
    Due.equal("lostPulses()", x.lostPulses(), 3);
    x.run(1);
    Due.equal("prints(1)", x.prints(1), 2);
    Due.equal("the buffer", Sample.buffer(x), "bd");
    Due.equal("lose(1)", x.lose(1), 6);
  }

  private static void undo() {
    Due.sentence("Promise 47", "Undoes the latest recorded action.");
    TypeWheelTelegraph x = Sample.of(WHEELS + "message 0 b1;");
    String[] actions = {
      "start 0", "run 10", "setRate 0 70", "nudge 1 30", "setCorrection 9", "lose 2", "breakIn",
      "runUntilDone 5"
    };
    String[] before = new String[actions.length];
    for (int i = 0; i < actions.length; i++) {
      before[i] = Calls.watch(x);
      Due.equal(actions[i] + " throws", Calls.ask(x, actions[i]).startsWith("throws"), false);
    }
    for (int i = actions.length - 1; i >= 0; i--) {
      Due.equal("undo() of " + actions[i], x.undo(), i);
      Due.equal("the state before " + actions[i], Calls.watch(x), before[i]);
    }
  }

  private static void format() {
    Due.sentence("Promise 53", "Returns the length of the text.");
    TypeWheelTelegraph x = Sample.sending(WHEELS + "message 0 b1;");
    formatted(x, 0, "0: 0+500 sends 0");
    formatted(x, 1, "1: 5500+500 prints ");
    x.run(19);
    formatted(x, 1, "1: 3000+500 prints b1");
    x.run(15);
    formatted(x, 0, "0: 5000+500 waits");
    x.run(2);
    formatted(x, 0, "0: 0+500");
  }

  private static void formatted(TypeWheelTelegraph x, int office, String text) {
    Due.equal("format(" + office + ")", x.format(office), text.length());
    StringBuilder shown = new StringBuilder();
    for (int i = 0; i < text.length(); i++) {
      shown.append(x.formattedCharacter(i));
    }
    Due.equal("the text", shown.toString(), text);
  }
}
