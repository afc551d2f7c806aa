/** Promises 53 and 54: the formatted text. */
public final class FormatTest {
  private static final Class<IndexOutOfBoundsException> NO_INDEX = IndexOutOfBoundsException.class;

  public static void main(String[] args) {
    TypeWheelTelegraph x = Sample.of(Sample.IN_STEP);
    Due.thrown("formattedCharacter(0)", NO_INDEX, x, () -> x.formattedCharacter(0));
    Due.thrown("formattedCharacter(-1)", NO_INDEX, x, () -> x.formattedCharacter(-1));
    formats(x, 0, "0: 0+500");
    formats(x, 1, "1: 5500+500");
    x.start(0);
    formats(x, 0, "0: 0+500 sends 0");
    formats(x, 1, "1: 5500+500 prints ");
    x.run(12);
    formats(x, 0, "0: 0+500 sends 0");
    formats(x, 1, "1: 5500+500 prints ad");
    x.run(8);
    formats(x, 0, "0: 4000+500 waits");
    formats(x, 1, "1: 3500+500 prints ad");
    x.run(11);
    formats(x, 0, "0: 3500+500 sends 1");
    formats(x, 1, "1: 3000+500 prints 1");
    Due.thrown("format(2)", NO_INDEX, x, () -> x.format(2));
    Due.thrown("format(-1)", NO_INDEX, x, () -> x.format(-1));
    x.runUntilDone(100);
    Due.equal("the text stays", text(x, 20), "1: 3000+500 prints 1");
    formats(x, 1, "1: 4500+500");

    TypeWheelTelegraph y = Sample.of("office 3 10;message 1 a;");
    y.start(1);
    formats(y, 1, "1: 0+100 sends 0");
    formats(y, 0, "0: 3+10 prints ");
    Due.end("FormatTest");
  }

  private static void formats(TypeWheelTelegraph x, int office, String text) {
    Due.equal("format(" + office + ")", x.format(office), text.length());
    Due.equal("the formatted text", text(x, text.length()), text);
    Due.thrown("formattedCharacter", NO_INDEX, x, () -> x.formattedCharacter(text.length()));
    Due.thrown("formattedCharacter(-1)", NO_INDEX, x, () -> x.formattedCharacter(-1));
  }

  private static String text(TypeWheelTelegraph x, int length) {
    StringBuilder text = new StringBuilder();
    for (int i = 0; i < length; i++) {
      text.append(x.formattedCharacter(i));
    }
    return text.toString();
  }
}
