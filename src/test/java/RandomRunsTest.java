import java.util.Random;

/** Long runs of calls, drawn from fixed seeds, are answered as the reference answers them. */
public final class RandomRunsTest {
  private static final int RUNS = 300;
  private static final int CALLS = 120;

  private final Random random;
  private final int run;
  private final TypeWheelTelegraph real = new TypeWheelTelegraph();
  private final Reference reference = new Reference();
  private final StringBuilder story = new StringBuilder();

  private RandomRunsTest(int run) {
    this.run = run;
    random = new Random(run);
  }

  public static void main(String[] args) {
    int runs = args.length > 0 ? Integer.parseInt(args[0]) : RUNS;
    for (int run = 1; run <= runs; run++) {
      if (!new RandomRunsTest(run).agrees()) {
        System.exit(1);
      }
    }
    System.out.println("RandomRunsTest: " + runs + " runs agree with the reference");
  }

  private boolean agrees() {
    loadText();
    boolean agree = sameState();
    for (int call = 0; call < CALLS && agree; call++) {
      agree = draw() && sameState();
    }
    return agree;
  }

  private boolean sameState() {
    String want = Calls.watch(reference);
    String got = Calls.watch(real);
    return same("the state", got, want);
  }

  private boolean same(String what, String got, String want) {
    if (got.equals(want)) {
      return true;
    }
    System.out.println("run " + run + "\n" + story);
    System.out.println(what + " answered\n" + got + "\n, due is \n" + want);
    return false;
  }

  private boolean ask(String name, Object... arguments) {
    story.append(name).append(java.util.Arrays.toString(arguments)).append('\n');
    String want = Calls.answer(reference, name, arguments);
    return same(name, Calls.answer(real, name, arguments), want);
  }

  private int from(int low, int high) {
    return low + random.nextInt(high - low + 1);
  }

  private boolean chance(int percent) {
    return random.nextInt(100) < percent;
  }

  private int office() {
    return chance(3) ? from(-2, 3) : from(0, 1);
  }

  private boolean draw() {
    switch (from(0, 24)) {
      case 0, 1, 2, 3, 4:
        return ask("run", chance(4) ? from(-2, 2100) : from(1, 60));
      case 5:
        return ask("run", from(50, 600));
      case 6:
        return ask("runUntilDone", chance(5) ? from(-2, 5100) : from(1, 900));
      case 7, 8, 9:
        return ask("start", office());
      case 10:
        return !chance(40) || ask("breakIn");
      case 11:
        return ask("setRate", office(), chance(70) ? nearRate() : from(5, 1004));
      case 12:
        return ask("nudge", office(), chance(80) ? from(-700, 700) : from(-14100, 14100));
      case 13:
        return ask("setCorrection", from(-5, 505));
      case 14:
        return ask("lose", chance(80) ? from(1, 12) : from(-1, 502));
      case 15, 16:
        return ask("undo");
      case 17:
        return ask("misprintsIn", chance(10) ? from(-1, 2002) : from(1, 200));
      case 18:
        return ask("ticksUntilDone", chance(10) ? from(-1, 5002) : from(1, 800));
      case 19:
        return trialOfMany();
      case 20:
        return ask("format", office());
      case 21:
        return lookups();
      case 22:
        return !chance(15) || loadText();
      case 23:
        return !chance(15) || loadBroken();
      default:
        return ask("event", from(-1, 42), from(-1, 3));
    }
  }

  private int nearRate() {
    return Integer.parseInt(Calls.answer(reference, "rate", from(0, 1))) + from(-4, 4);
  }

  private boolean trialOfMany() {
    int ticks = chance(5) ? from(-1, 1) : chance(3) ? from(990, 1002) : from(1, 150);
    return switch (from(0, 2)) {
      case 0 -> ask("bestCorrection", ticks);
      case 1 -> ask("bestRate", office(), ticks);
      default -> ask("bestNudge", office(), ticks);
    };
  }

  private boolean lookups() {
    return ask("character", from(-1, 29), chance(50))
        && ask("lineLength", office(), from(-1, 13))
        && ask("pulsesOf", office(), from(-1, 13))
        && ask("pulseOf", office(), from(-1, 4), from(-1, 20))
        && ask("ticksFor", office(), from(-1, 13))
        && ask("slowestLine", office())
        && ask("bufferCharacter", from(-1, 41))
        && ask("receivedCharacter", office(), from(-1, 60))
        && ask("formattedCharacter", from(-1, 30));
  }

  // ---- texts

  private boolean loadText() {
    return loadThis(text());
  }

  private boolean loadThis(String text) {
    String cut = text.substring(0, Math.min(600, text.length()));
    story.append("text ").append(cut.replace('\n', '~')).append('\n');
    Calls.put(real, cut);
    Calls.put(reference, cut);
    return ask("load");
  }

  private boolean loadBroken() {
    String signs = "abz019;/ \n.A\u00ff";
    StringBuilder text = new StringBuilder(text());
    for (int changes = from(1, 3); changes > 0 && text.length() > 0; changes--) {
      int at = from(0, text.length() - 1);
      switch (from(0, 2)) {
        case 0 -> text.deleteCharAt(at);
        case 1 -> text.insert(at, signs.charAt(from(0, signs.length() - 1)));
        default -> text.setCharAt(at, signs.charAt(from(0, signs.length() - 1)));
      }
    }
    return loadThis(text.toString());
  }

  private String text() {
    StringBuilder text = new StringBuilder();
    int positions = chance(30) ? 28 : from(6, 28);
    if (positions != 28 || chance(30)) {
      text.append("wheel ").append(positions).append(';');
    }
    int rate = from(30, 999);
    int phase = from(0, 1000 * positions - 1);
    int delay = chance(70) ? from(1, 4) : from(1, 50);
    if (chance(90)) {
      text.append("office ").append(phase).append(' ').append(rate).append(blank()).append("; ");
      int inStep = Math.floorMod(phase - delay * rate + from(-600, 600), 1000 * positions);
      int other = Math.max(10, Math.min(999, rate + from(-2, 2)));
      text.append("office").append(inStep).append(' ').append(other).append(';');
    }
    text.append("delay ").append(delay).append(';');
    text.append("guard").append(blank()).append(chance(50) ? from(1, 200) : from(1, 900));
    text.append(';');
    if (chance(60)) {
      text.append("correct ").append(from(0, 500)).append(";\n");
    }
    if (chance(60)) {
      text.append("retries ").append(from(0, 4)).append(";");
    }
    for (int losses = chance(50) ? 0 : from(1, 8); losses > 0; losses--) {
      text.append("lose ").append(from(1, 80)).append(";");
    }
    for (int messages = from(1, 4); messages > 0; messages--) {
      message(text, positions);
    }
    return text.toString();
  }

  private String blank() {
    return chance(70) ? " " : chance(50) ? "\n" : "  ";
  }

  private void message(StringBuilder text, int positions) {
    text.append("message ").append(from(0, 1));
    int top = positions - 3;
    for (int items = from(1, 7); items > 0; items--) {
      text.append(blank());
      if (chance(30)) {
        text.append('/');
      } else if (chance(40)) {
        for (int digits = from(1, 5); digits > 0; digits--) {
          text.append((char) ('0' + from(0, Math.min(9, top))));
        }
      } else {
        for (int letters = from(1, 6); letters > 0; letters--) {
          text.append((char) ('a' + from(0, Math.min(25, top))));
        }
      }
    }
    text.append(';');
  }
}
