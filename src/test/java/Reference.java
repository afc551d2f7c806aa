import java.util.ArrayDeque;
import java.util.ArrayList;
import java.util.Deque;
import java.util.List;
import java.util.regex.Matcher;
import java.util.regex.Pattern;

/**
 * A second telegraph, written from the document alone and as literally as can be, for comparison:
 * nothing is reckoned in closed form, every copy is a new object, and speed does not matter.
 */
public final class Reference {
  private static final int NONE = -1;
  private static final String FIGURES = "0123456789.,:;?!+-=()*'\"_@";

  private static final class Mismatch extends Exception {
    final int offset;

    Mismatch(int offset) {
      this.offset = offset;
    }
  }

  private static final class Description {
    int positions = 28;
    int[] phase = {0, 0};
    int[] rate = {100, 100};
    int delay = 1;
    int correct = 200;
    int guard = 600;
    int retries = 2;
    List<Integer> losses = new ArrayList<>();
    List<List<StringBuilder>> messages = List.of(new ArrayList<>(), new ArrayList<>());
  }

  private record Sent(int arrivesAt, char kind, int position) {}

  private static final class State {
    int time;
    int[] phase;
    int[] rate;
    int correct;
    int sender = NONE;
    boolean waiting;
    int until;
    int sent;
    int repetition;
    int quietSince;
    List<Sent> underWay = new ArrayList<>();
    String buffer = "";
    int count;
    boolean figures;
    boolean expectsCheck;
    int[] done = {0, 0};
    String[] received = {"", ""};
    List<Integer> losses;
    int pulses;
    int lost;
    List<List<Integer>> offsets = List.of(new ArrayList<>(), new ArrayList<>());
    int[] misprints = {0, 0};
    List<int[]> events = new ArrayList<>();

    State(Description d) {
      phase = d.phase.clone();
      rate = d.rate.clone();
      correct = d.correct;
      losses = new ArrayList<>(d.losses);
    }

    State(State s) {
      time = s.time;
      phase = s.phase.clone();
      rate = s.rate.clone();
      correct = s.correct;
      sender = s.sender;
      waiting = s.waiting;
      until = s.until;
      sent = s.sent;
      repetition = s.repetition;
      quietSince = s.quietSince;
      underWay = new ArrayList<>(s.underWay);
      buffer = s.buffer;
      count = s.count;
      figures = s.figures;
      expectsCheck = s.expectsCheck;
      done = s.done.clone();
      received = s.received.clone();
      losses = new ArrayList<>(s.losses);
      pulses = s.pulses;
      lost = s.lost;
      offsets = List.of(new ArrayList<>(s.offsets.get(0)), new ArrayList<>(s.offsets.get(1)));
      misprints = s.misprints.clone();
      events = new ArrayList<>(s.events);
    }
  }

  private StringBuilder input = new StringBuilder();
  private int errorOffset = NONE;
  private Description d = new Description();
  private State s = new State(d);
  private Deque<State> undo = new ArrayDeque<>();
  private String formatted = "";

  // ---- the text

  private record Token(String text, int offset) {}

  private static List<Token> tokens(String text) {
    List<Token> list = new ArrayList<>();
    Matcher m = Pattern.compile("[a-z]+|[0-9]+|[^ \\n]").matcher(text);
    while (m.find()) {
      list.add(new Token(m.group(), m.start()));
    }
    list.add(new Token("", text.length()));
    return list;
  }

  private static Description parse(String text) throws Mismatch {
    Description d = new Description();
    List<Token> tokens = tokens(text);
    int offices = 0;
    int at = 0;
    while (!tokens.get(at).text.isEmpty()) {
      Token word = tokens.get(at);
      switch (word.text) {
        case "wheel" -> {
          if (at > 0) {
            throw new Mismatch(word.offset);
          }
          d.positions = number(tokens.get(++at), 6, 28);
        }
        case "office" -> {
          if (offices == 2) {
            throw new Mismatch(word.offset);
          }
          d.phase[offices] = number(tokens.get(++at), 0, 1000 * d.positions - 1);
          d.rate[offices] = number(tokens.get(++at), 10, 999);
          offices++;
        }
        case "delay" -> d.delay = number(tokens.get(++at), 1, 50);
        case "correct" -> d.correct = number(tokens.get(++at), 0, 500);
        case "guard" -> d.guard = number(tokens.get(++at), 1, 5000);
        case "retries" -> d.retries = number(tokens.get(++at), 0, 9);
        case "lose" -> {
          if (d.losses.size() == 20) {
            throw new Mismatch(word.offset);
          }
          d.losses.add(number(tokens.get(++at), 1, 9999));
        }
        case "message" -> {
          List<StringBuilder> lines = d.messages.get(number(tokens.get(++at), 0, 1));
          newLine(lines, tokens.get(at));
          do {
            at++;
            item(d, lines, tokens.get(at));
          } while (!tokens.get(at + 1).text.equals(";"));
        }
        default -> throw new Mismatch(word.offset);
      }
      at++;
      if (!tokens.get(at).text.equals(";")) {
        throw new Mismatch(tokens.get(at).offset);
      }
      at++;
    }
    return d;
  }

  private static int number(Token token, int low, int high) throws Mismatch {
    if (!token.text.matches("[0-9]{1,5}")) {
      throw new Mismatch(token.offset);
    }
    int value = Integer.parseInt(token.text);
    if (value < low || value > high) {
      throw new Mismatch(token.offset);
    }
    return value;
  }

  private static void newLine(List<StringBuilder> lines, Token token) throws Mismatch {
    if (lines.size() == 12) {
      throw new Mismatch(token.offset);
    }
    lines.add(new StringBuilder());
  }

  private static void item(Description d, List<StringBuilder> lines, Token token)
      throws Mismatch {
    if (token.text.equals("/")) {
      newLine(lines, token);
      return;
    }
    if (!token.text.matches("[a-z]{1,12}|[0-9]{1,5}")) {
      throw new Mismatch(token.offset);
    }
    for (char c : token.text.toCharArray()) {
      if ((Character.isDigit(c) ? c - '0' : c - 'a') >= d.positions - 2) {
        throw new Mismatch(token.offset);
      }
    }
    StringBuilder line = lines.get(lines.size() - 1);
    line.append(token.text);
    if (line.length() > 30) {
      throw new Mismatch(token.offset);
    }
  }

  public int append(int w0, int w1, int w2, int w3, int w4) {
    if (input.length() + 20 > 600) {
      throw new IllegalStateException();
    }
    for (int w : new int[] {w0, w1, w2, w3, w4}) {
      input.append((char) (w >>> 24)).append((char) (w >>> 16 & 255));
      input.append((char) (w >>> 8 & 255)).append((char) (w & 255));
    }
    return input.length();
  }

  public void truncate(int length) {
    if (length < 0 || length > input.length()) {
      throw new IllegalArgumentException();
    }
    input.setLength(length);
  }

  public int load() {
    String text = input.toString();
    input.setLength(0);
    try {
      d = parse(text);
    } catch (Mismatch e) {
      errorOffset = e.offset;
      throw new IllegalArgumentException();
    }
    errorOffset = NONE;
    s = new State(d);
    undo.clear();
    return d.messages.get(0).size() + d.messages.get(1).size();
  }

  public int errorOffset() {
    return errorOffset;
  }

  // ---- wheels and lines

  private static void checkOffice(int office) {
    if (office < 0 || office > 1) {
      throw new IndexOutOfBoundsException();
    }
  }

  private static void checkIndex(int index, int count) {
    if (index < 0 || index >= count) {
      throw new IndexOutOfBoundsException();
    }
  }

  private static void checkRange(int value, int low, int high) {
    if (value < low || value > high) {
      throw new IllegalArgumentException();
    }
  }

  private static int mod(int a, int b) {
    return ((a % b) + b) % b;
  }

  public int positions() {
    return d.positions;
  }

  public int time() {
    return s.time;
  }

  public int phase(int office) {
    checkOffice(office);
    return s.phase[office];
  }

  public int rate(int office) {
    checkOffice(office);
    return s.rate[office];
  }

  public int facing(int office) {
    checkOffice(office);
    return (s.phase[office] + 500) / 1000 % d.positions;
  }

  public char character(int position, boolean figures) {
    if (position < 2 || position > d.positions - 1) {
      throw new IndexOutOfBoundsException();
    }
    return figures ? FIGURES.charAt(position - 2) : (char) ('a' + position - 2);
  }

  public int lead() {
    int lead = s.phase[1] + d.delay * s.rate[1] - s.phase[0];
    while (lead < -500 * d.positions) {
      lead += 1000 * d.positions;
    }
    while (lead > 500 * d.positions - 1) {
      lead -= 1000 * d.positions;
    }
    return lead;
  }

  public int lineCount(int office) {
    checkOffice(office);
    return d.messages.get(office).size();
  }

  public int linesDone(int office) {
    checkOffice(office);
    return s.done[office];
  }

  public int lineLength(int office, int line) {
    checkOffice(office);
    checkIndex(line, d.messages.get(office).size());
    return d.messages.get(office).get(line).length();
  }

  private List<Integer> sequence(int office, int line) {
    checkOffice(office);
    checkIndex(line, d.messages.get(office).size());
    List<Integer> list = new ArrayList<>();
    boolean figures = false;
    for (char c : d.messages.get(office).get(line).toString().toCharArray()) {
      boolean digit = c >= '0' && c <= '9';
      if (digit && !figures) {
        list.add(1);
        figures = true;
      }
      if (!digit && figures) {
        list.add(0);
        figures = false;
      }
      list.add(2 + (digit ? FIGURES.indexOf(c) : c - 'a'));
    }
    int n = list.size();
    list.add(figures ? 1 : 0);
    list.add(2 + n % (d.positions - 2));
    return list;
  }

  public int pulsesOf(int office, int line) {
    return sequence(office, line).size();
  }

  public int pulseOf(int office, int line, int index) {
    List<Integer> list = sequence(office, line);
    checkIndex(index, list.size());
    return list.get(index);
  }

  private boolean passes(int phase, int rate, int position) {
    return mod(phase - 1000 * position, 1000 * d.positions) < rate;
  }

  private int ticksFor(List<Integer> sequence, int office) {
    int phase = s.phase[office];
    int ticks = 0;
    int next = 0;
    while (next < sequence.size()) {
      ticks++;
      phase = mod(phase + s.rate[office], 1000 * d.positions);
      if (passes(phase, s.rate[office], sequence.get(next))) {
        next++;
      }
    }
    return ticks;
  }

  public int ticksFor(int office, int line) {
    return ticksFor(sequence(office, line), office);
  }

  public int slowestLine(int office) {
    checkOffice(office);
    int slowest = NONE;
    for (int line = 0; line < d.messages.get(office).size(); line++) {
      if (slowest == NONE || ticksFor(office, line) > ticksFor(office, slowest)) {
        slowest = line;
      }
    }
    return slowest;
  }

  // ---- transmission

  public int sender() {
    return s.sender;
  }

  public boolean isWaiting() {
    return s.sender != NONE && s.waiting;
  }

  public int sentOfLine() {
    return s.sender == NONE ? 0 : s.sent;
  }

  public int repetition() {
    return s.sender == NONE ? 0 : s.repetition;
  }

  public int underWay() {
    return s.underWay.size();
  }

  public int nextPulseIn() {
    if (s.sender == NONE || s.waiting) {
      return NONE;
    }
    List<Integer> rest = sequence(s.sender, s.done[s.sender]);
    return ticksFor(rest.subList(s.sent, s.sent + 1), s.sender);
  }

  public int silence() {
    return s.sender == NONE ? 0 : s.time - s.quietSince;
  }

  public int bufferLength() {
    return s.sender == NONE ? 0 : s.buffer.length();
  }

  public char bufferCharacter(int index) {
    checkIndex(index, bufferLength());
    return s.buffer.charAt(index);
  }

  public int receivedLength(int office) {
    checkOffice(office);
    return s.received[office].length();
  }

  public char receivedCharacter(int office, int index) {
    checkOffice(office);
    checkIndex(index, s.received[office].length());
    return s.received[office].charAt(index);
  }

  // ---- statistics

  public int pulses() {
    return s.pulses;
  }

  public int lostPulses() {
    return s.lost;
  }

  public int prints(int office) {
    checkOffice(office);
    return s.offsets.get(office).size();
  }

  public int misprints(int office) {
    checkOffice(office);
    return s.misprints[office];
  }

  private static int worst(List<Integer> offsets, int from) {
    int worst = 0;
    for (int offset : offsets.subList(from, offsets.size())) {
      worst = Math.max(worst, Math.abs(offset));
    }
    return worst;
  }

  public int worstOffset(int office) {
    checkOffice(office);
    return worst(s.offsets.get(office), 0);
  }

  public double meanOffset(int office) {
    checkOffice(office);
    double sum = 0;
    for (int offset : s.offsets.get(office)) {
      sum += offset;
    }
    return s.offsets.get(office).isEmpty() ? 0.0 : sum / s.offsets.get(office).size();
  }

  public int eventCount() {
    return s.events.size();
  }

  public int event(int index, int what) {
    checkIndex(index, s.events.size());
    checkRange(what, 0, 2);
    return s.events.get(index)[what];
  }

  // ---- a tick

  private void tick() {
    s.time++;
    for (int office = 0; office < 2; office++) {
      s.phase[office] = mod(s.phase[office] + s.rate[office], 1000 * d.positions);
    }
    boolean found = true;
    while (found) {
      found = false;
      for (int i = 0; i < s.underWay.size() && !found; i++) {
        if (s.underWay.get(i).arrivesAt == s.time) {
          arrive(s.underWay.remove(i));
          found = true;
        }
      }
    }
    if (s.sender != NONE && !s.waiting) {
      lookForNext();
    }
    if (s.sender != NONE && s.waiting && s.time == s.until) {
      failed();
    }
    if (s.sender != NONE && s.time - s.quietSince >= d.guard) {
      clearReceiver();
    }
  }

  private void arrive(Sent sent) {
    switch (sent.kind) {
      case 'p' -> print(sent.position);
      case 'b' -> {
        happen(5, s.done[s.sender]);
        end();
      }
      case 'g' -> {
        if (s.waiting) {
          lineDone();
        }
      }
      default -> {
        if (s.waiting) {
          failed();
        }
      }
    }
  }

  private void print(int due) {
    int n = d.positions;
    int r = 1 - s.sender;
    s.quietSince = s.time;
    int k = (s.phase[r] + 500) / 1000;
    int printed = k % n;
    int offset = s.phase[r] - 1000 * k;
    s.offsets.get(r).add(offset);
    int limited = offset > s.correct ? s.correct : offset < -s.correct ? -s.correct : offset;
    s.phase[r] = mod(s.phase[r] - limited, 1000 * n);
    if (printed != due) {
      s.misprints[r]++;
    }
    if (s.expectsCheck) {
      boolean good = printed == 2 + s.count % (n - 2);
      if (good) {
        s.received[r] += s.buffer + "/";
        s.received[r] = s.received[r].substring(0, Math.min(1000, s.received[r].length()));
      }
      happen(good ? 1 : 2, good ? s.buffer.length() : s.count);
      s.underWay.add(new Sent(s.time + d.delay, good ? 'g' : 'f', NONE));
      clearReceiver();
    } else if (printed == (s.figures ? 1 : 0)) {
      s.expectsCheck = true;
    } else if (printed < 2) {
      s.figures = !s.figures;
      s.count++;
    } else {
      if (s.buffer.length() < 40) {
        s.buffer += character(printed, s.figures);
      }
      s.count++;
    }
  }

  private void lookForNext() {
    List<Integer> sequence = sequence(s.sender, s.done[s.sender]);
    int p = sequence.get(s.sent);
    if (!passes(s.phase[s.sender], s.rate[s.sender], p)) {
      return;
    }
    s.pulses++;
    if (s.losses.contains(s.pulses)) {
      s.lost++;
    } else {
      s.underWay.add(new Sent(s.time + d.delay, 'p', p));
    }
    s.sent++;
    if (s.sent == sequence.size()) {
      s.waiting = true;
      s.until = s.time + 2 * d.delay + d.guard;
    }
  }

  private void failed() {
    if (s.repetition < d.retries) {
      happen(3, s.done[s.sender]);
      s.repetition++;
      s.sent = 0;
      s.waiting = false;
    } else {
      happen(4, s.done[s.sender]);
      lineDone();
    }
  }

  private void lineDone() {
    s.done[s.sender]++;
    s.repetition = 0;
    s.sent = 0;
    s.waiting = false;
    if (s.done[s.sender] == d.messages.get(s.sender).size()) {
      happen(6, s.sender);
      end();
    }
  }

  private void end() {
    s.sender = NONE;
    s.waiting = false;
    clearReceiver();
    s.underWay.clear();
  }

  private void clearReceiver() {
    s.buffer = "";
    s.count = 0;
    s.figures = false;
    s.expectsCheck = false;
  }

  private void happen(int code, int value) {
    s.events.add(new int[] {s.time, code, value});
    if (s.events.size() > 40) {
      s.events.remove(0);
    }
  }

  // ---- actions

  private void record() {
    undo.addLast(new State(s));
    if (undo.size() > 10) {
      undo.removeFirst();
    }
  }

  public int run(int ticks) {
    checkRange(ticks, 1, 2000);
    checkTime(ticks);
    record();
    int before = s.pulses;
    for (int i = 0; i < ticks; i++) {
      tick();
    }
    return s.pulses - before;
  }

  private void checkTime(int ticks) {
    if (s.time + ticks > 100000) {
      throw new IllegalStateException();
    }
  }

  public int runUntilDone(int limit) {
    checkRange(limit, 1, 5000);
    checkTime(limit);
    record();
    int before = s.time;
    for (int i = 0; i < limit && s.sender != NONE; i++) {
      tick();
    }
    return s.time - before;
  }

  public int start(int office) {
    checkOffice(office);
    if (s.sender != NONE || s.done[office] == d.messages.get(office).size()) {
      throw new IllegalStateException();
    }
    record();
    s.sender = office;
    s.waiting = false;
    s.sent = 0;
    s.repetition = 0;
    s.quietSince = s.time;
    clearReceiver();
    return s.done[office];
  }

  public int breakIn() {
    if (s.sender == NONE) {
      throw new IllegalStateException();
    }
    record();
    s.underWay.add(new Sent(s.time + d.delay, 'b', NONE));
    return s.time + d.delay;
  }

  public int setRate(int office, int rate) {
    checkOffice(office);
    checkRange(rate, 10, 999);
    record();
    int before = s.rate[office];
    s.rate[office] = rate;
    return before;
  }

  public int nudge(int office, int change) {
    checkOffice(office);
    checkRange(change, -14000, 14000);
    record();
    s.phase[office] = mod(s.phase[office] + change, 1000 * d.positions);
    return s.phase[office];
  }

  public int setCorrection(int limit) {
    checkRange(limit, 0, 500);
    record();
    int before = s.correct;
    s.correct = limit;
    return before;
  }

  public int lose(int ahead) {
    checkRange(ahead, 1, 500);
    if (s.losses.size() == 20) {
      throw new IllegalStateException();
    }
    record();
    s.losses.add(s.pulses + ahead);
    return s.pulses + ahead;
  }

  public int undo() {
    if (undo.isEmpty()) {
      throw new IllegalStateException();
    }
    s = undo.removeLast();
    return undo.size();
  }

  // ---- trials

  /** Ticks on a copy: {misprints of both, greatest absolute offset of both, ticks, sender}. */
  private int[] trial(int ticks, boolean stopsWhenDone) {
    State real = s;
    s = new State(real);
    try {
      int made = 0;
      while (made < ticks && !(stopsWhenDone && s.sender == NONE)) {
        tick();
        made++;
      }
      int misprints = 0;
      int worst = 0;
      for (int office = 0; office < 2; office++) {
        misprints += s.misprints[office] - real.misprints[office];
        worst = Math.max(worst, worst(s.offsets.get(office), real.offsets.get(office).size()));
      }
      return new int[] {misprints, worst, made, s.sender};
    } finally {
      s = real;
    }
  }

  public int misprintsIn(int ticks) {
    checkRange(ticks, 1, 2000);
    return trial(ticks, false)[0];
  }

  public int ticksUntilDone(int limit) {
    checkRange(limit, 1, 5000);
    int[] result = trial(limit, true);
    return result[3] == NONE ? result[2] : NONE;
  }

  public int bestCorrection(int ticks) {
    checkRange(ticks, 1, 1000);
    int present = s.correct;
    int best = 0;
    int fewest = Integer.MAX_VALUE;
    for (int limit = 500; limit >= 0; limit -= 25) {
      s.correct = limit;
      int misprints = trial(ticks, false)[0];
      if (misprints <= fewest) {
        best = limit;
        fewest = misprints;
      }
    }
    s.correct = present;
    return best;
  }

  public int bestRate(int office, int ticks) {
    checkOffice(office);
    checkRange(ticks, 1, 1000);
    int present = s.rate[office];
    int best = 0;
    int smallest = Integer.MAX_VALUE;
    for (int rate = present + 5; rate >= present - 5; rate--) {
      if (rate >= 10 && rate <= 999) {
        s.rate[office] = rate;
        int worst = trial(ticks, false)[1];
        if (worst <= smallest) {
          best = rate;
          smallest = worst;
        }
      }
    }
    s.rate[office] = present;
    return best;
  }

  public int bestNudge(int office, int ticks) {
    checkOffice(office);
    checkRange(ticks, 1, 1000);
    int present = s.phase[office];
    int best = 0;
    int fewest = Integer.MAX_VALUE;
    for (int change : new int[] {500, -500, 400, -400, 300, -300, 200, -200, 100, -100, 0}) {
      s.phase[office] = mod(present + change, 1000 * d.positions);
      int misprints = trial(ticks, false)[0];
      if (misprints <= fewest) {
        best = change;
        fewest = misprints;
      }
    }
    s.phase[office] = present;
    return best;
  }

  // ---- formatted text

  public int format(int office) {
    checkOffice(office);
    formatted = office + ": " + s.phase[office] + "+" + s.rate[office];
    if (s.sender == office) {
      formatted += s.waiting ? " waits" : " sends " + s.done[office];
    }
    if (s.sender == 1 - office) {
      formatted += " prints " + s.buffer;
    }
    return formatted.length();
  }

  public char formattedCharacter(int index) {
    checkIndex(index, formatted.length());
    return formatted.charAt(index);
  }
}
