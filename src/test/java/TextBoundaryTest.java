/** The boundaries that the section INPUT TEXT names, sentence by sentence. */
public final class TextBoundaryTest {
  private static final String SECTION = "INPUT TEXT";
  private static final String THIRTY = "abcdefghijkl abcdefghijkl abcdef";
  private static final String[] KEYWORDS = {
    "wheel", "office", "delay", "correct", "guard", "retries", "lose", "message"
  };

  public static void main(String[] args) {
    bytes();
    words();
    numbers();
    tokensExtend();
    blanks();
    illegalTokens();
    statements();
    kindsOfStatement();
    items();
    wheel();
    wheelFirst();
    officeNumbers();
    officeOrder();
    officeDefaults();
    settings();
    lastSettingCounts();
    lossNumbers();
    twentyLosses();
    messageOffice();
    characters();
    slashes();
    onTheWheel();
    wordsAsItems();
    lineLength();
    messagesFollow();
    twelveLines();
    errorOffset();
    earlyEnds();
    oneByOne();
    cannotBeContinued();
    Due.end("TextBoundaryTest");
  }

  private static void bytes() {
    Due.sentence(SECTION, "The text has at most 600 bytes.");
    Loads.accepted("", 0);
    Loads.accepted(" ", 0);
    String full = "message 0 a" + " ".repeat(588) + ";";
    TypeWheelTelegraph x = Loads.accepted(full.substring(0, 598) + ";", 1);
    Loads.accepted(x, full, 1);
    Calls.put(x, full);
    String more = Calls.answer(x, "append", 0, 0, 0, 0, 0);
    Due.equal("append to 600 bytes", more, "throws.IllegalStateException");
    Due.equal("load() of the 600 bytes", x.load(), 1);
    Loads.refused(full.replace(';', 'b'), 600);
    Loads.refused(full.replace(';', '+'), 599);
  }

  private static void words() {
    Due.sentence(SECTION, "words (1 to 12 letters a to z)");
    Loads.accepted("message 0 a;", 1);
    Loads.accepted("message 0 z;", 1);
    Loads.accepted("message 0 azazazazazaz;", 1);
    Loads.refused("message 0 azazazazazaza;", 10);
    Loads.refused("message 0 a" + "z".repeat(23) + ";", 10);
    Loads.refused("message 0 a`;", 11);
    Loads.refused("message 0 z{;", 11);
    Loads.refused("message 0 A;", 10);
    Loads.refused("z".repeat(600), 0);
  }

  private static void numbers() {
    Due.sentence(SECTION, "numbers (1 to 5 digits)");
    Loads.accepted("message 0 0;", 1);
    Loads.accepted("message 0 9;", 1);
    Loads.accepted("message 0 99999;", 1);
    Loads.refused("message 0 999999;", 10);
    Loads.accepted("message 00001 a;", 1);
    Loads.refused("message 000001 a;", 8);
    Loads.accepted("delay 00050;", 0);
    Loads.refused("delay 000050;", 6);
    Loads.refused("delay 000000000000000000002;", 6);
    Loads.refused("delay 4294967298;", 6);
    Loads.refused("delay -1;", 6);
  }

  private static void tokensExtend() {
    Due.sentence(
        SECTION,
        "A token extends as far as possible; a number may follow a word directly, and a word a"
            + " number.");
    TypeWheelTelegraph x = Loads.accepted("wheel6;office3 17;message1a2b3;", 1);
    Due.equal("positions()", x.positions(), 6);
    Due.equal("phase(0)", x.phase(0), 3);
    Due.equal("lineLength(1, 0)", x.lineLength(1, 0), 4);
    Loads.accepted("message 0 abcdefghijkl12345abcdefghijkl;", 1);
    // Not a word of 12 letters with one of 3 behind it, and not a keyword with a word behind it.
    Loads.refused("message 0 abcdefghijklabc;", 10);
    Loads.refused("message 0 12345123;", 10);
    Loads.refused("messagea 0;", 0);
    Loads.refused("delay 2guard 3;", 7);
  }

  private static void blanks() {
    Due.sentence(
        SECTION,
        "Spaces (32) and line feeds (10) may stand before the first token, between tokens and"
            + " behind the last token, and are otherwise ignored.");
    TypeWheelTelegraph x = Loads.accepted(" \n wheel \n\n 6 \n ; message\n1\nab c\n/ 1 ;\n ", 2);
    Due.equal("pulses", Sample.pulses(x, 1, 0), "2 3 4 0 5");
    Due.equal("lineLength(1, 1)", x.lineLength(1, 1), 1);
    Loads.accepted("\n".repeat(600), 0);
    Loads.refused(" \n del ay 2;", 3);
    Loads.refused("delay 1 0;", 8);
    Loads.refused(" \n wheel 6\n ", 12);
  }

  private static void illegalTokens() {
    Due.sentence(
        SECTION,
        "Every other byte, a longer run of letters and a longer run of digits is an illegal"
            + " token.");
    for (int sign = 0; sign < 256; sign++) {
      boolean isLetter = sign >= 'a' && sign <= 'z';
      boolean isDigit = sign >= '0' && sign <= '9';
      String text = "message 0 a" + (char) sign + "a;";
      if (isLetter || isDigit || sign == ' ' || sign == '\n') {
        TypeWheelTelegraph x = Loads.accepted(text, 1);
        Due.equal("lineLength of " + text, x.lineLength(0, 0), isLetter || isDigit ? 3 : 2);
      } else if (sign == '/') {
        Loads.accepted(text, 2);
      } else {
        Loads.refused(text, sign == ';' ? 12 : 11);
      }
      if (sign != ' ' && sign != '\n') {
        Loads.refused("delay 2; " + (char) sign, 9);
      }
    }
  }

  private static void statements() {
    Due.sentence(SECTION, "text = { statement \";\" }.");
    Loads.accepted("", 0);
    Loads.accepted("guard 9;", 0);
    Loads.accepted("guard 9;guard 8;", 0);
    Loads.refused(";", 0);
    Loads.refused("guard 9", 7);
    Loads.refused("guard 9;;", 8);
    Loads.refused("guard 9 guard 8;", 8);
  }

  private static void kindsOfStatement() {
    Due.sentence(
        SECTION,
        "statement = \"wheel\" number | \"office\" number number | \"delay\" number | \"correct\""
            + " number | \"guard\" number | \"retries\" number | \"lose\" number | \"message\""
            + " number item { item }.");
    for (String keyword : KEYWORDS) {
      int length = keyword.length();
      Loads.refused(keyword + "s 9;", 0);
      Loads.refused(keyword.substring(0, length - 1) + " 9;", 0);
      Loads.refused(keyword.substring(1) + " 9;", 0);
      Loads.refused(keyword.toUpperCase() + " 9;", 0);
      for (int place = 0; place < length; place++) {
        String end = keyword.substring(place + 1);
        Loads.refused(keyword.substring(0, place) + "x" + end + " 1 11;", 0);
      }
      Loads.refused(keyword, length);
      Loads.refused(keyword + ";", length);
      Loads.refused(keyword + "/", length);
      Loads.refused(keyword + " " + keyword + " 9;", length + 1);
      if (keyword.equals("office") || keyword.equals("message")) {
        Loads.refused(keyword + " 1;", length + 2);
      } else {
        Loads.accepted(keyword + " 9;", 0);
        Loads.refused(keyword + " 9 9;", length + 3);
        Loads.refused(keyword + " 9 a;", length + 3);
        Loads.refused(keyword + " 9/", length + 2);
      }
    }
    Loads.refused("office 9 99 9;", 12);
    Loads.refused("office 9 a;", 9);
    Loads.refused("office 9/99;", 8);
    Loads.refused("nothing 9;", 0);
    Loads.refused("5;", 0);
    Loads.refused("/", 0);
  }

  private static void items() {
    Due.sentence(SECTION, "item = word | number | \"/\".");
    Loads.accepted("message 0 a;", 1);
    Loads.accepted("message 0 1;", 1);
    Loads.accepted("message 0 /;", 2);
    Loads.accepted("message 0 a1/;", 2);
    Loads.refused("message 0;", 9);
    Loads.refused("message 0 :;", 10);
  }

  private static void wheel() {
    Due.sentence(
        SECTION,
        "\"wheel\" sets the number of positions of both wheels, 6 to 28; without it there are"
            + " 28.");
    Loads.range("wheel ", 6, 28, ";", 0);
    for (int positions = 6; positions <= 28; positions++) {
      TypeWheelTelegraph x = Loads.accepted("wheel " + positions + ";", 0);
      Due.equal("positions()", x.positions(), positions);
      Loads.accepted(x, "", 0);
      Due.equal("positions() without wheel", x.positions(), 28);
    }
    Loads.refused("wheel 0;", 6);
  }

  private static void wheelFirst() {
    Due.sentence(SECTION, "It may only be the first statement.");
    Loads.accepted("wheel 9;lose 9;", 0);
    Loads.refused("lose 9;wheel 9;", 7);
    Loads.refused("wheel 9;wheel 9;", 8);
    Loads.refused("message 0 a; wheel", 13);
    Loads.accepted("message 0 wheel;", 1);
  }

  private static void officeNumbers() {
    Due.sentence(
        SECTION,
        "\"office\" sets the phase (0 to 1000 * positions - 1) and the rate (10 to 999) of an"
            + " office");
    Loads.range("office ", 0, 27999, " 10;", 0);
    Loads.range("wheel 6;office ", 0, 5999, " 10;", 0);
    Loads.range("wheel 7;office 0 10;office ", 0, 6999, " 10;", 0);
    Loads.range("office 0 ", 10, 999, ";", 0);
    Loads.range("office 0 10;office 0 ", 10, 999, ";", 0);
    Loads.refused("office 0 0;", 9);
  }

  private static void officeOrder() {
    Due.sentence(
        SECTION,
        "the first such statement those of office 0, the second one those of office 1.");
    TypeWheelTelegraph x = Loads.accepted("office 27999 999;delay 1;office 0 10;", 0);
    Due.equal("phase(0)", x.phase(0), 27999);
    Due.equal("rate(0)", x.rate(0), 999);
    Due.equal("phase(1)", x.phase(1), 0);
    Due.equal("rate(1)", x.rate(1), 10);
    Loads.refused("office 1 11;office 2 22;office 3 33;", 24);
  }

  private static void officeDefaults() {
    Due.sentence(SECTION, "Without it the phase is 0 and the rate is 100.");
    TypeWheelTelegraph x = Loads.accepted("office 11 22;office 33 44;", 0);
    Loads.accepted(x, "office 55 66;", 0);
    Due.equal("phase(0)", x.phase(0), 55);
    Due.equal("rate(0)", x.rate(0), 66);
    Due.equal("phase(1)", x.phase(1), 0);
    Due.equal("rate(1)", x.rate(1), 100);
    Loads.accepted(x, "", 0);
    Due.equal("phase(0)", x.phase(0), 0);
    Due.equal("rate(0)", x.rate(0), 100);
  }

  private static void settings() {
    Due.sentence(
        SECTION,
        "\"delay\" (1 to 50, default 1), \"correct\" (0 to 500, default 200), \"guard\" (1 to"
            + " 5000, default 600) and \"retries\" (0 to 9, default 2) set the delay, the"
            + " correction limit, the guard time and the number of retries");
    Loads.range("delay ", 1, 50, ";", 0);
    Loads.range("correct ", 0, 500, ";", 0);
    Loads.range("guard ", 1, 5000, ";", 0);
    Loads.range("retries ", 0, 9, ";", 0);
    Due.equal("setCorrection(1)", Loads.accepted("correct 0;", 0).setCorrection(1), 0);
    Due.equal("setCorrection(1)", Loads.accepted("correct 500;", 0).setCorrection(1), 500);
    Due.equal("setCorrection(1)", Loads.accepted("", 0).setCorrection(1), 200);
    Due.equal("lead() by the delay 50", Loads.accepted("delay 50;", 0).lead(), 5000);
    Due.equal("lead() by the delay 1", Loads.accepted("", 0).lead(), 100);
    failsAt("delay 1;guard 1;retries 0;", "23,4,0 23,6,0");
    failsAt("delay 50;guard 1;retries 0;", "121,4,0 121,6,0");
    failsAt("guard 5000;retries 0;", "5022,4,0 5022,6,0");
    failsAt("retries 0;", "622,4,0 622,6,0");
    failsAt("", "622,3,0 1246,3,0 1870,4,0 1870,6,0");
  }

  /** The check of the line is lost each time; the line fails 2 * delay + guard ticks later. */
  private static void failsAt(String settings, String events) {
    String text = "wheel 6;office 0 500;office 0 500;message 0 ad;lose 4;lose 8;lose 12;";
    TypeWheelTelegraph x = Sample.of(text + settings);
    x.nudge(1, -x.lead());
    x.start(0);
    x.runUntilDone(5000);
    x.runUntilDone(5000);
    Due.equal("the failures by " + settings, Sample.events(x), events);
  }

  private static void lastSettingCounts() {
    Due.sentence(SECTION, "of several such statements of one kind the last one counts.");
    TypeWheelTelegraph x = Loads.accepted("delay 50;correct 500;delay 1;correct 0;", 0);
    Due.equal("lead()", x.lead(), 100);
    Due.equal("setCorrection(9)", x.setCorrection(9), 0);
    failsAt("guard 1;retries 9;guard 5000;retries 0;", "5022,4,0 5022,6,0");
    failsAt("guard 5000;retries 0;guard 1;retries 0;", "23,4,0 23,6,0");
    failsAt("guard 600;retries 0;retries 2;", "622,3,0 1246,3,0 1870,4,0 1870,6,0");
  }

  private static void lossNumbers() {
    Due.sentence(
        SECTION, "\"lose\" names a pulse that gets lost, by its number (1 to 9999; see section"
            + " PULSES).");
    Loads.range("lose ", 1, 9999, ";", 0);
    TypeWheelTelegraph x = Sample.sending(Sample.IN_STEP + "lose 1;lose 9999;");
    x.run(4);
    Due.equal("lostPulses(): the first pulse", x.lostPulses(), 1);
    x.run(6);
    Due.equal("lostPulses(): not the second one", x.lostPulses(), 1);
  }

  private static void twentyLosses() {
    Due.sentence(
        SECTION, "There are at most 20 such statements; a number may be named several times.");
    Loads.accepted("lose 1;".repeat(19), 0);
    Loads.accepted("lose 1;".repeat(20), 0);
    Loads.refused("lose 1;".repeat(21), 140);
    StringBuilder text = new StringBuilder();
    for (int number = 1; number <= 20; number++) {
      text.append("lose ").append(number).append(";");
    }
    Loads.refused(text + "lose 1;", text.length());
    // Twenty pulses for a, one each 12 ticks from 4 on, and then the end signal at 240.
    String twentyOfA = "message 0 aaaaaaaaaaaa aaaaaaaa;";
    TypeWheelTelegraph x = Sample.sending("wheel 6;office 0 500;" + text + twentyOfA);
    Due.equal("run(239)", x.run(239), 20);
    Due.equal("lostPulses()", x.lostPulses(), 20);
    Due.equal("run(1)", x.run(1), 1);
    Due.equal("lostPulses()", x.lostPulses(), 20);
  }

  private static void messageOffice() {
    Due.sentence(
        SECTION,
        "\"message\" adds lines to the messages of an office (0 or 1).");
    TypeWheelTelegraph x = Loads.accepted("message 1 a;", 1);
    Due.equal("lineCount(0)", x.lineCount(0), 0);
    Due.equal("lineCount(1)", x.lineCount(1), 1);
    x = Loads.accepted("message 0 a;", 1);
    Due.equal("lineCount(0)", x.lineCount(0), 1);
    Due.equal("lineCount(1)", x.lineCount(1), 0);
    Loads.refused("message 2 a;", 8);
    Loads.refused("message 99999 a;", 8);
  }

  private static void characters() {
    Due.sentence(
        SECTION, "The letters of its words and the digits of its numbers are characters;");
    lengths("message 0 abcdefghijkl;", 12);
    lengths("message 0 12345;", 5);
    lengths("message 0 00000;", 5);
    lengths("message 0 0;", 1);
    TypeWheelTelegraph x = Loads.accepted("message 0 az09 009a;", 1);
    Due.equal("pulses", Sample.pulses(x, 0, 0), "2 27 1 2 11 2 2 11 0 2 0 12");
  }

  private static void slashes() {
    Due.sentence(SECTION, "each \"/\" ends a line and begins the next one.");
    lengths("message 0 a;", 1);
    lengths("message 0 /;", 0, 0);
    lengths("message 0 a/;", 1, 0);
    lengths("message 0 /a;", 0, 1);
    lengths("message 0 a//b2;", 1, 0, 2);
  }

  private static void lengths(String text, int... lengths) {
    TypeWheelTelegraph x = Loads.accepted(text, lengths.length);
    for (int line = 0; line < lengths.length; line++) {
      Due.equal("lineLength(0, " + line + ") of " + text, x.lineLength(0, line), lengths[line]);
    }
  }

  private static void onTheWheel() {
    Due.sentence(
        SECTION,
        "Each item must consist of characters that are on the wheel: letter k of the alphabet (a"
            + " is 0) or digit k is on the wheel if k is less than the number of positions minus"
            + " 2.");
    for (int positions = 6; positions <= 28; positions++) {
      String before = "wheel " + positions + ";message 0 a1";
      int first = positions - 2;
      Loads.accepted(before + " a" + (char) ('a' + first - 1) + ";", 1);
      if (first < 26) {
        Loads.refused(before + " a" + (char) ('a' + first) + ";", before.length() + 1);
        Loads.refused(before + " " + (char) ('a' + first) + "a;", before.length() + 1);
        Loads.refused(before + " /z;", before.length() + 2);
      }
      if (first < 10) {
        Loads.accepted(before + " 0" + (first - 1) + ";", 1);
        Loads.refused(before + " 0" + first + ";", before.length() + 1);
        Loads.refused(before + " " + first + "0;", before.length() + 1);
      } else {
        Loads.accepted(before + " 09;", 1);
      }
    }
  }

  private static void wordsAsItems() {
    Due.sentence(
        SECTION,
        "A word of any length up to 12 letters can be an item, also one that is a keyword.");
    for (int length = 1; length <= 12; length++) {
      lengths("message 0 " + "abcdefghijkl".substring(0, length) + ";", length);
    }
    Loads.refused("message 0 abcdefghijklm;", 10);
    for (String keyword : KEYWORDS) {
      lengths("message 0 " + keyword + ";", keyword.length());
      lengths("message 0 1" + keyword + " 1;", keyword.length() + 2);
    }
  }

  private static void lineLength() {
    Due.sentence(SECTION, "A line has at most 30 characters; it may be empty.");
    lengths("message 0 " + THIRTY.substring(1) + ";", 29);
    lengths("message 0 " + THIRTY + ";", 30);
    Loads.refused("message 0 " + THIRTY + "g;", 36);
    Loads.refused("message 0 " + THIRTY + "1;", 42);
    Loads.refused("message 0 " + THIRTY + " a;", 43);
    lengths("message 0 " + THIRTY.substring(2) + "12;", 30);
    Loads.refused("message 0 " + THIRTY.substring(2) + "123;", 40);
    lengths("message 0 " + THIRTY + "/" + THIRTY + "/;", 30, 30, 0);
    Loads.refused("message 0 /" + THIRTY + "/" + THIRTY + " 0;", 77);
    lengths("message 0 12345 12345 12345 12345 12345 12345;", 30);
    Loads.refused("message 0 12345 12345 12345 12345 12345 12345 0;", 46);
    lengths("message 0 /;", 0, 0);
  }

  private static void messagesFollow() {
    Due.sentence(
        SECTION,
        "The lines of several \"message\" statements of one office follow one another.");
    TypeWheelTelegraph x = Loads.accepted("message 0 a/bb;message 1 c;message 0 ddd/;", 5);
    Due.equal("lineCount(0)", x.lineCount(0), 4);
    Due.equal("lineCount(1)", x.lineCount(1), 1);
    Due.equal("lineLength(0, 0)", x.lineLength(0, 0), 1);
    Due.equal("lineLength(0, 1)", x.lineLength(0, 1), 2);
    Due.equal("lineLength(0, 2)", x.lineLength(0, 2), 3);
    Due.equal("lineLength(0, 3)", x.lineLength(0, 3), 0);
    // A new message begins a new line, so that 30 characters fit once more.
    Loads.accepted("message 0 " + THIRTY + ";message 0 " + THIRTY + ";", 2);
  }

  private static void twelveLines() {
    Due.sentence(SECTION, "An office has at most 12 lines.");
    for (int office = 0; office < 2; office++) {
      String one = "message " + office + " a;";
      Loads.accepted("message " + office + " " + "/".repeat(10) + ";", 11);
      Loads.accepted("message " + office + " " + "/".repeat(11) + ";", 12);
      Loads.refused("message " + office + " " + "/".repeat(12) + ";", 21);
      Loads.accepted(one.repeat(12), 12);
      Loads.refused(one.repeat(13), 12 * 12 + 8);
      Loads.refused(one.repeat(12) + "message " + office + " /;", 12 * 12 + 8);
      Loads.refused(one.repeat(11) + "message " + office + " a/a;", 11 * 12 + 11);
    }
    Loads.accepted("message 0 " + "/".repeat(11) + ";message 1 " + "/".repeat(11) + ";", 24);
  }

  private static void errorOffset() {
    Due.sentence(
        SECTION,
        "The error offset of a text that does not match is the offset of its first token that"
            + " cannot be continued to a legal text");
    Loads.refused("+", 0);
    Loads.refused(" +", 1);
    Loads.refused("delay 99;wheel 9;+", 6);
    Loads.refused("delay 9;wheel 9;+", 8);
    Loads.refused("delay 9; +;wheel 9", 9);
    Loads.refused(" ".repeat(599) + "+", 599);
  }

  private static void earlyEnds() {
    Due.sentence(SECTION, "or the length of the text, if it ends too early.");
    String text = "wheel 6;message 0 a;";
    int[] due = {
      -1, 0, 0, 0, 0, 5, 6, 7, -1, 8, 8, 8, 8, 8, 8, 15, 16, 17, 18, 19, -1
    };
    for (int length = 0; length < due.length; length++) {
      String part = text.substring(0, length);
      if (due[length] >= 0) {
        Loads.refused(part, due[length]);
      } else {
        Loads.accepted(part, length == text.length() ? 1 : 0);
      }
    }
    Loads.refused("delay 9\n ", 9);
    Loads.refused("delay" + " ".repeat(594), 599);
    Loads.refused("delay" + " ".repeat(595), 600);
  }

  private static void oneByOne() {
    Due.sentence(
        SECTION,
        "Tokens are looked at one by one: a token counts as right even if no legal one can"
            + " follow it.");
    String full = "message 0 ///////////;message 1 ///////////;";
    Loads.refused(full + "message", 51);
    Loads.refused(full + "message ", 52);
    Loads.refused(full + "message;", 51);
    Loads.refused(full + "message 1", 52);
    Loads.refused(full + "message 2", 52);
  }

  private static void cannotBeContinued() {
    Due.sentence(SECTION, "a number out of its range;");
    Loads.refused("guard  5001;", 7);
    Loads.refused("office 28000 1000;", 7);
    Loads.refused("office 27999 1000;", 13);
    Due.sentence(SECTION, "a \"wheel\" that is not the first word of the text;");
    Loads.accepted(" wheel 6;", 0);
    Loads.refused("guard 1; wheel 5;", 9);
    Due.sentence(SECTION, "the third \"office\";");
    Loads.accepted("office 1 10;office 1 10;", 0);
    Loads.refused("office 1 10;office 1 10; office", 25);
    Due.sentence(SECTION, "the 21st \"lose\";");
    Loads.refused("lose 1;".repeat(20) + " lose", 141);
    Due.sentence(SECTION, "an item with a character that is not on the wheel;");
    Loads.refused("wheel 6;message 0 abcde", 18);
    Loads.refused("wheel 6;message 0 abcd 01234", 23);
    Due.sentence(SECTION, "an item with which the line has more than 30 characters;");
    Loads.refused("message 0 " + THIRTY + " 12345", 43);
    Due.sentence(
        SECTION,
        "a \"/\" or \"message\" with which the office has more than 12 lines (for \"message\""
            + " the offset is that of the office number).");
    Loads.refused("message 0 ///////////a / a", 23);
    Loads.refused("message 0 ///////////;message   0 a;", 32);
  }
}
