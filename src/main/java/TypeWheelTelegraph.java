/**
 * A simulator of a printing telegraph with synchronous type wheels, in the manner of the Hughes
 * telegraph. The document ../shared/DOC.md says what each call does.
 *
 * <p>Nothing is made anew by a call: the states that undo() and the trials need are made with the
 * object, and used again and again.
 */
public final class TypeWheelTelegraph {
  public static final int NONE = -1;

  private static final int UNIT = 1000;
  private static final int LETTER_SHIFT = 0;
  private static final int FIGURE_SHIFT = 1;
  private static final int SHIFTS = 2;
  private static final String FIGURES = "0123456789.,:;?!+-=()*'\"_@";

  private static final int MAX_INPUT = 600;
  private static final int BYTES_PER_APPEND = 20;
  private static final int MAX_TIME = 100000;
  private static final int MAX_RUN = 2000;
  private static final int MAX_RUN_UNTIL_DONE = 5000;
  private static final int MAX_SEARCH = 1000;
  private static final int MIN_RATE = 10;
  private static final int MAX_RATE = 999;
  private static final int RATES_AROUND = 5;
  private static final int MAX_NUDGE = 14000;
  private static final int MAX_TRIED_NUDGE = 500;
  private static final int NUDGE_STEP = 100;
  private static final int MAX_CORRECTION = 500;
  private static final int CORRECTION_STEP = 25;
  private static final int MAX_LOSSES = 20;
  private static final int MAX_AHEAD = 500;
  private static final int MAX_LINES = 12;
  private static final int MAX_LINE_LENGTH = 30;

  private final Row input = new Row(MAX_INPUT);
  private final Parser parser = new Parser(input);
  private final StringBuilder formatted = new StringBuilder();
  private final Machine now;
  private final Machine trial;
  private final History history;
  private Plan plan = new Plan();
  private Plan spare = new Plan();
  private int errorAt = NONE;

  public TypeWheelTelegraph() {
    now = new Machine(plan);
    trial = new Machine(plan);
    history = new History(plan);
  }

  // ---- input

  public int append(int w0, int w1, int w2, int w3, int w4) throws IllegalStateException {
    if (input.size() > MAX_INPUT - BYTES_PER_APPEND) {
      throw new IllegalStateException("the input buffer would be too long");
    }
    appendWord(w0);
    appendWord(w1);
    appendWord(w2);
    appendWord(w3);
    appendWord(w4);
    return input.size();
  }

  private void appendWord(int word) {
    for (int shift = 24; shift >= 0; shift -= 8) {
      input.add((word >> shift) & 255);
    }
  }

  public void truncate(int length) throws IllegalArgumentException {
    if (length < 0 || length > input.size()) {
      throw new IllegalArgumentException("no such length of the input buffer");
    }
    input.shorten(length);
  }

  public int load() throws IllegalArgumentException {
    errorAt = parser.read(spare);
    input.clear();
    if (errorAt != NONE) {
      throw new IllegalArgumentException("the text does not match");
    }
    Plan loaded = spare;
    spare = plan;
    plan = loaded;
    now.begin(plan);
    history.clear();
    return plan.first.lineCount + plan.second.lineCount;
  }

  public int errorOffset() {
    return errorAt;
  }

  // ---- wheels

  public int positions() {
    return plan.positions;
  }

  public int time() {
    return now.time;
  }

  public int phase(int office) throws IndexOutOfBoundsException {
    return officeAt(office).phase;
  }

  public int rate(int office) throws IndexOutOfBoundsException {
    return officeAt(office).rate;
  }

  public int facing(int office) throws IndexOutOfBoundsException {
    return modulo(officeAt(office).nearestPosition(), plan.positions);
  }

  public char character(int position, boolean figures) throws IndexOutOfBoundsException {
    if (position < SHIFTS || position >= plan.positions) {
      throw new IndexOutOfBoundsException("the position has no character");
    }
    return characterOf(position, figures);
  }

  public int lead() {
    int ahead = now.second.phase + plan.delay * now.second.rate - now.first.phase;
    int half = plan.circle() / 2;
    return modulo(ahead + half, plan.circle()) - half;
  }

  // ---- lines

  public int lineCount(int office) throws IndexOutOfBoundsException {
    return deskAt(office).lineCount;
  }

  public int linesDone(int office) throws IndexOutOfBoundsException {
    return officeAt(office).linesDone;
  }

  public int lineLength(int office, int line) throws IndexOutOfBoundsException {
    return lineAt(office, line).characters.size();
  }

  public int pulsesOf(int office, int line) throws IndexOutOfBoundsException {
    return lineAt(office, line).pulses.size();
  }

  public int pulseOf(int office, int line, int index) throws IndexOutOfBoundsException {
    return itemAt(lineAt(office, line).pulses, index);
  }

  public int ticksFor(int office, int line) throws IndexOutOfBoundsException {
    return ticksToSend(lineAt(office, line), officeAt(office));
  }

  public int slowestLine(int office) throws IndexOutOfBoundsException {
    int count = deskAt(office).lineCount;
    int slowest = NONE;
    int most = NONE;
    for (int line = 0; line < count; line++) {
      int ticks = ticksToSend(lineAt(office, line), officeAt(office));
      if (ticks > most) {
        most = ticks;
        slowest = line;
      }
    }
    return slowest;
  }

  private int ticksToSend(Line line, Office office) {
    int circle = plan.circle();
    int phase = office.phase;
    int ticks = 0;
    for (int i = 0; i < line.pulses.size(); i++) {
      int more = ticksToPass(line.pulses.get(i), phase, office.rate, circle);
      phase = modulo(phase + more * office.rate, circle);
      ticks += more;
    }
    return ticks;
  }

  // ---- transmission

  public int sender() {
    return now.sender;
  }

  public boolean isWaiting() {
    return now.waiting;
  }

  public int sentOfLine() {
    return now.sent;
  }

  public int repetition() {
    return now.repeated;
  }

  public int underWay() {
    return now.transit.size();
  }

  public int nextPulseIn() {
    int position = now.nextPosition();
    if (position == NONE) {
      return NONE;
    }
    Office own = now.office(now.sender);
    return ticksToPass(position, own.phase, own.rate, plan.circle());
  }

  public int silence() {
    return now.sender == NONE ? 0 : now.silentTicks();
  }

  public int bufferLength() {
    return now.receiver.buffer.size();
  }

  public char bufferCharacter(int index) throws IndexOutOfBoundsException {
    return (char) itemAt(now.receiver.buffer, index);
  }

  public int receivedLength(int office) throws IndexOutOfBoundsException {
    return officeAt(office).received.size();
  }

  public char receivedCharacter(int office, int index) throws IndexOutOfBoundsException {
    return (char) itemAt(officeAt(office).received, index);
  }

  // ---- statistics

  public int pulses() {
    return now.pulses;
  }

  public int lostPulses() {
    return now.lostPulses;
  }

  public int prints(int office) throws IndexOutOfBoundsException {
    return officeAt(office).prints;
  }

  public int misprints(int office) throws IndexOutOfBoundsException {
    return officeAt(office).misprints;
  }

  public int worstOffset(int office) throws IndexOutOfBoundsException {
    return officeAt(office).worstOffset;
  }

  public double meanOffset(int office) throws IndexOutOfBoundsException {
    Office printing = officeAt(office);
    return printing.prints == 0 ? 0.0 : (double) printing.offsetSum / (double) printing.prints;
  }

  public int eventCount() {
    return now.events.size();
  }

  public int event(int index, int what)
      throws IndexOutOfBoundsException, IllegalArgumentException {
    if (index < 0 || index >= now.events.size()) {
      throw new IndexOutOfBoundsException("no such event");
    }
    if (what < 0 || what >= Records.WIDTH) {
      throw new IllegalArgumentException("an event has a time, a code and a value");
    }
    return now.events.get(index, what);
  }

  // ---- actions

  public int run(int ticks) throws IllegalArgumentException, IllegalStateException {
    requireRange(ticks, 1, MAX_RUN);
    requireTimeFor(ticks);
    history.keep(now);
    int before = now.pulses;
    for (int made = 0; made < ticks; made++) {
      now.tick();
    }
    return now.pulses - before;
  }

  public int runUntilDone(int limit) throws IllegalArgumentException, IllegalStateException {
    requireRange(limit, 1, MAX_RUN_UNTIL_DONE);
    requireTimeFor(limit);
    history.keep(now);
    return ticksMadeUntilDone(now, limit);
  }

  public int start(int office) throws IndexOutOfBoundsException, IllegalStateException {
    int line = officeAt(office).linesDone;
    if (now.sender != NONE) {
      throw new IllegalStateException("there is a sender");
    }
    if (line >= deskAt(office).lineCount) {
      throw new IllegalStateException("all lines of the office are done");
    }
    history.keep(now);
    now.beginTransmission(office);
    return line;
  }

  public int breakIn() throws IllegalStateException {
    if (now.sender == NONE) {
      throw new IllegalStateException("there is no sender");
    }
    history.keep(now);
    return now.sendBreak();
  }

  public int setRate(int office, int rate)
      throws IndexOutOfBoundsException, IllegalArgumentException {
    Office changed = officeAt(office);
    requireRange(rate, MIN_RATE, MAX_RATE);
    history.keep(now);
    int before = changed.rate;
    changed.rate = rate;
    return before;
  }

  public int nudge(int office, int change)
      throws IndexOutOfBoundsException, IllegalArgumentException {
    Office changed = officeAt(office);
    requireRange(change, -MAX_NUDGE, MAX_NUDGE);
    history.keep(now);
    changed.turn(change, plan.circle());
    return changed.phase;
  }

  public int setCorrection(int limit) throws IllegalArgumentException {
    requireRange(limit, 0, MAX_CORRECTION);
    history.keep(now);
    int before = now.correction;
    now.correction = limit;
    return before;
  }

  public int lose(int ahead) throws IllegalArgumentException, IllegalStateException {
    requireRange(ahead, 1, MAX_AHEAD);
    if (now.losses.size() >= MAX_LOSSES) {
      throw new IllegalStateException("no further pulse can be named");
    }
    history.keep(now);
    int number = now.pulses + ahead;
    now.losses.add(number);
    return number;
  }

  public int undo() throws IllegalStateException {
    if (history.size() == 0) {
      throw new IllegalStateException("there is no action to undo");
    }
    history.restore(now);
    return history.size();
  }

  // ---- trials

  public int misprintsIn(int ticks) throws IllegalArgumentException {
    requireRange(ticks, 1, MAX_RUN);
    trial.copyFrom(now);
    return misprintsOfTrial(ticks);
  }

  public int ticksUntilDone(int limit) throws IllegalArgumentException {
    requireRange(limit, 1, MAX_RUN_UNTIL_DONE);
    trial.copyFrom(now);
    int ticks = ticksMadeUntilDone(trial, limit);
    return trial.sender == NONE ? ticks : NONE;
  }

  public int bestCorrection(int ticks) throws IllegalArgumentException {
    requireRange(ticks, 1, MAX_SEARCH);
    int best = NONE;
    int fewest = 0;
    for (int limit = 0; limit <= MAX_CORRECTION; limit += CORRECTION_STEP) {
      trial.copyFrom(now);
      trial.correction = limit;
      int misprints = misprintsOfTrial(ticks);
      if (best == NONE || misprints < fewest) {
        best = limit;
        fewest = misprints;
      }
    }
    return best;
  }

  public int bestRate(int office, int ticks)
      throws IndexOutOfBoundsException, IllegalArgumentException {
    int present = officeAt(office).rate;
    requireRange(ticks, 1, MAX_SEARCH);
    int last = Math.min(present + RATES_AROUND, MAX_RATE);
    int best = NONE;
    int smallest = 0;
    for (int rate = Math.max(present - RATES_AROUND, MIN_RATE); rate <= last; rate++) {
      trial.copyFrom(now);
      trial.office(office).rate = rate;
      int worst = worstOffsetOfTrial(ticks);
      if (best == NONE || worst < smallest) {
        best = rate;
        smallest = worst;
      }
    }
    return best;
  }

  public int bestNudge(int office, int ticks)
      throws IndexOutOfBoundsException, IllegalArgumentException {
    requireOffice(office);
    requireRange(ticks, 1, MAX_SEARCH);
    trial.copyFrom(now);
    int best = 0;
    int fewest = misprintsOfTrial(ticks);
    // The order of the trials settles which of several equal changes is answered.
    for (int size = NUDGE_STEP; size <= MAX_TRIED_NUDGE; size += NUDGE_STEP) {
      for (int change = -size; change <= size; change += 2 * size) {
        trial.copyFrom(now);
        trial.office(office).turn(change, plan.circle());
        int misprints = misprintsOfTrial(ticks);
        if (misprints < fewest) {
          best = change;
          fewest = misprints;
        }
      }
    }
    return best;
  }

  private int misprintsOfTrial(int ticks) {
    int before = trial.first.misprints + trial.second.misprints;
    for (int made = 0; made < ticks; made++) {
      trial.tick();
    }
    return trial.first.misprints + trial.second.misprints - before;
  }

  private int worstOffsetOfTrial(int ticks) {
    trial.first.worstOffset = 0;
    trial.second.worstOffset = 0;
    for (int made = 0; made < ticks; made++) {
      trial.tick();
    }
    return Math.max(trial.first.worstOffset, trial.second.worstOffset);
  }

  private static int ticksMadeUntilDone(Machine machine, int limit) {
    int made = 0;
    while (made < limit && machine.sender != NONE) {
      machine.tick();
      made++;
    }
    return made;
  }

  // ---- formatted text

  public int format(int office) throws IndexOutOfBoundsException {
    Office shown = officeAt(office);
    formatted.setLength(0);
    formatted.append(office);
    formatted.append(": ");
    formatted.append(shown.phase);
    formatted.append('+');
    formatted.append(shown.rate);
    if (now.sender == office) {
      formatSending(shown);
    } else if (now.sender != NONE) {
      formatPrinting();
    }
    return formatted.length();
  }

  private void formatSending(Office own) {
    if (now.waiting) {
      formatted.append(" waits");
    } else {
      formatted.append(" sends ");
      formatted.append(own.linesDone);
    }
  }

  private void formatPrinting() {
    Row buffer = now.receiver.buffer;
    formatted.append(" prints ");
    for (int i = 0; i < buffer.size(); i++) {
      formatted.append((char) buffer.get(i));
    }
  }

  public char formattedCharacter(int index) throws IndexOutOfBoundsException {
    if (index < 0 || index >= formatted.length()) {
      throw new IndexOutOfBoundsException("no such character of the formatted text");
    }
    return formatted.charAt(index);
  }

  // ---- arguments

  private static void requireOffice(int office) {
    if (office != 0 && office != 1) {
      throw new IndexOutOfBoundsException("an office is 0 or 1");
    }
  }

  private static void requireRange(int value, int low, int high) {
    if (value < low || value > high) {
      throw new IllegalArgumentException("the argument is out of range");
    }
  }

  private void requireTimeFor(int ticks) {
    if (now.time + ticks > MAX_TIME) {
      throw new IllegalStateException("the time would be too great");
    }
  }

  private Office officeAt(int office) {
    requireOffice(office);
    return now.office(office);
  }

  private Desk deskAt(int office) {
    requireOffice(office);
    return plan.desk(office);
  }

  private Line lineAt(int office, int number) {
    Line line = deskAt(office).line(number);
    if (line == null) {
      throw new IndexOutOfBoundsException("the office has no such line");
    }
    return line;
  }

  private static int itemAt(Row row, int index) {
    if (index < 0 || index >= row.size()) {
      throw new IndexOutOfBoundsException("no such index");
    }
    return row.get(index);
  }

  // ---- reckoning that several classes share

  private static int modulo(int value, int by) {
    return by > 0 ? Math.floorMod(value, by) : 0;
  }

  private static char characterOf(int position, boolean figures) {
    int index = position - SHIFTS;
    if (!figures) {
      return (char) ('a' + index);
    }
    return index >= 0 && index < FIGURES.length() ? FIGURES.charAt(index) : ' ';
  }

  private static int checkPosition(int count, int positions) {
    return SHIFTS + modulo(count, positions - SHIFTS);
  }

  /**
   * The ticks until a wheel passes the beginning of a position. A wheel that stands just there has
   * passed it already, so it has to turn once more: hence a way from 1 to the whole circle.
   */
  private static int ticksToPass(int position, int phase, int rate, int circle) {
    int way = modulo(UNIT * position - phase - 1, circle) + 1;
    return rate > 0 ? (way + rate - 1) / rate : 0;
  }

  /** Numbers in a row that is made once and used again; what does not fit is dropped. */
  private static final class Row {
    private final int[] items;
    private int size;

    Row(int capacity) {
      items = new int[Math.max(capacity, 0)];
    }

    int size() {
      return size;
    }

    int get(int index) {
      return index >= 0 && index < size && index < items.length ? items[index] : NONE;
    }

    void add(int item) {
      if (size < items.length) {
        items[size] = item;
        size++;
      }
    }

    boolean holds(int item) {
      for (int i = 0; i < size; i++) {
        if (get(i) == item) {
          return true;
        }
      }
      return false;
    }

    void shorten(int length) {
      if (length >= 0 && length < size) {
        size = length;
      }
    }

    void clear() {
      size = 0;
    }

    void copyFrom(Row other) {
      size = Math.min(other.size, Math.min(other.items.length, items.length));
      System.arraycopy(other.items, 0, items, 0, size);
    }
  }

  /** The latest records of three numbers each, the oldest first; a full ring drops its oldest. */
  private static final class Records {
    static final int WIDTH = 3;

    private final int capacity;
    private final int[] cells;
    private int first;
    private int size;

    Records(int capacity) {
      this.capacity = Math.max(capacity, 1);
      cells = new int[WIDTH * this.capacity];
    }

    int size() {
      return size;
    }

    int get(int index, int what) {
      if (index < 0 || index >= size || what < 0 || what >= WIDTH) {
        return NONE;
      }
      int cell = cellOf(index) + what;
      return cell < cells.length ? cells[cell] : NONE;
    }

    void add(int a, int b, int c) {
      if (size == capacity) {
        removeFirst();
      }
      int cell = cellOf(size);
      if (cell + 2 < cells.length) {
        cells[cell] = a;
        cells[cell + 1] = b;
        cells[cell + 2] = c;
        size++;
      }
    }

    void removeFirst() {
      if (size > 0) {
        first = first + 1 < capacity ? first + 1 : 0;
        size--;
      }
    }

    void clear() {
      first = 0;
      size = 0;
    }

    void copyFrom(Records other) {
      clear();
      for (int i = 0; i < other.size; i++) {
        add(other.get(i, 0), other.get(i, 1), other.get(i, 2));
      }
    }

    private int cellOf(int index) {
      int place = first + index;
      return WIDTH * (place < capacity ? place : place - capacity);
    }
  }

  /** A line of a message: its characters, and the positions by which it is sent. */
  private static final class Line {
    // A shift before each character, the end signal and the check.
    private static final int MAX_PULSES = 2 * MAX_LINE_LENGTH + 2;

    final Row characters = new Row(MAX_LINE_LENGTH);
    final Row pulses = new Row(MAX_PULSES);

    void encode(int positions) {
      pulses.clear();
      int shift = LETTER_SHIFT;
      for (int i = 0; i < characters.size(); i++) {
        int sign = characters.get(i);
        int needed = sign <= '9' ? FIGURE_SHIFT : LETTER_SHIFT;
        if (shift != needed) {
          pulses.add(needed);
          shift = needed;
        }
        pulses.add(SHIFTS + wheelIndex(sign));
      }
      int count = pulses.size();
      pulses.add(shift);
      pulses.add(checkPosition(count, positions));
    }

    static int wheelIndex(int sign) {
      return sign <= '9' ? sign - '0' : sign - 'a';
    }
  }

  /** What the text says of one office. */
  private static final class Desk {
    int phase;
    int rate;
    int lineCount;
    private final Line[] lines = new Line[MAX_LINES];

    Desk() {
      for (int i = 0; i < lines.length; i++) {
        lines[i] = new Line();
      }
    }

    void reset() {
      phase = 0;
      rate = 100;
      lineCount = 0;
    }

    Line line(int number) {
      return number >= 0 && number < lineCount && number < lines.length ? lines[number] : null;
    }

    boolean addLine() {
      if (lineCount >= lines.length) {
        return false;
      }
      lineCount++;
      Line added = line(lineCount - 1);
      if (added != null) {
        added.characters.clear();
      }
      return true;
    }

    void encodeLines(int positions) {
      for (int i = 0; i < lineCount; i++) {
        Line line = line(i);
        if (line != null) {
          line.encode(positions);
        }
      }
    }
  }

  /** What a text describes; a new one is what the empty text describes. */
  private static final class Plan {
    int positions;
    int delay;
    int correction;
    int guard;
    int retries;
    final Row losses = new Row(MAX_LOSSES);
    final Desk first = new Desk();
    final Desk second = new Desk();

    Plan() {
      reset();
    }

    void reset() {
      positions = 28;
      delay = 1;
      correction = 200;
      guard = 600;
      retries = 2;
      losses.clear();
      first.reset();
      second.reset();
    }

    int circle() {
      return UNIT * positions;
    }

    Desk desk(int office) {
      return office == 1 ? second : first;
    }
  }

  /** Cuts the input text into tokens; the fields tell of the token that was taken last. */
  private static final class Tokens {
    static final int END = 0;
    static final int WORD = 1;
    static final int NUMBER = 2;
    static final int SEMICOLON = 3;
    static final int SLASH = 4;
    static final int ILLEGAL = 5;

    private static final int MAX_WORD = 12;
    private static final int MAX_DIGITS = 5;

    int kind;
    int start;
    private final Row text;
    private int end;

    Tokens(Row text) {
      this.text = text;
    }

    void begin() {
      end = 0;
      take();
    }

    void take() {
      start = end;
      while (start < text.size() && isBlank(text.get(start))) {
        start++;
      }
      kind = kindOf(text.get(start));
      end = start + 1;
      if (kind == WORD || kind == NUMBER) {
        while (end < text.size() && kindOf(text.get(end)) == kind) {
          end++;
        }
        if (length() > (kind == WORD ? MAX_WORD : MAX_DIGITS)) {
          kind = ILLEGAL;
        }
      }
    }

    int length() {
      return end - start;
    }

    int signAt(int index) {
      return text.get(start + index);
    }

    boolean isWord(String word) {
      if (kind != WORD || length() != word.length()) {
        return false;
      }
      for (int i = 0; i < word.length(); i++) {
        if (signAt(i) != word.charAt(i)) {
          return false;
        }
      }
      return true;
    }

    /** Returns the value of a number; NONE for any other token. */
    int number() {
      if (kind != NUMBER) {
        return NONE;
      }
      int value = 0;
      for (int i = start; i < end; i++) {
        value = 10 * value + text.get(i) - '0';
      }
      return value;
    }

    private static int kindOf(int sign) {
      if (sign == NONE) {
        return END;
      }
      if (sign >= 'a' && sign <= 'z') {
        return WORD;
      }
      if (sign >= '0' && sign <= '9') {
        return NUMBER;
      }
      if (sign == ';') {
        return SEMICOLON;
      }
      return sign == '/' ? SLASH : ILLEGAL;
    }

    private static boolean isBlank(int sign) {
      return sign == ' ' || sign == '\n';
    }
  }

  /**
   * Reads a text into a plan. Each function of the grammar begins at its first token, and takes the
   * tokens that it needs; where one answers false, the token taken last is the one at fault.
   */
  private static final class Parser {
    private static final int MAX_OFFICES = 2;

    private final Tokens tokens;
    private int offices;
    private int number;

    Parser(Row text) {
      tokens = new Tokens(text);
    }

    /** Returns the error offset; NONE if the text matches. */
    int read(Plan plan) {
      plan.reset();
      offices = 0;
      tokens.begin();
      // No statement is shorter than two characters, so the text ends before the counter does.
      for (int done = 0; done < MAX_INPUT && tokens.kind != Tokens.END; done++) {
        boolean isFirst = done == 0;
        if (!statement(plan, isFirst)) {
          return tokens.start;
        }
        tokens.take();
      }
      plan.first.encodeLines(plan.positions);
      plan.second.encodeLines(plan.positions);
      return NONE;
    }

    private boolean statement(Plan plan, boolean isFirst) {
      if (tokens.isWord("message")) {
        return message(plan);
      }
      boolean right;
      if (tokens.isWord("wheel")) {
        right = isFirst && wheel(plan);
      } else if (tokens.isWord("office")) {
        right = office(plan);
      } else if (tokens.isWord("lose")) {
        right = loss(plan);
      } else {
        right = setting(plan);
      }
      return right && takeSemicolon();
    }

    private boolean wheel(Plan plan) {
      if (!takeNumber(6, 28)) {
        return false;
      }
      plan.positions = number;
      return true;
    }

    /** A number that is out of its range does no harm in the plan: the text fails then. */
    private boolean setting(Plan plan) {
      boolean right = false;
      if (tokens.isWord("delay")) {
        right = takeNumber(1, 50);
        plan.delay = number;
      } else if (tokens.isWord("correct")) {
        right = takeNumber(0, MAX_CORRECTION);
        plan.correction = number;
      } else if (tokens.isWord("guard")) {
        right = takeNumber(1, 5000);
        plan.guard = number;
      } else if (tokens.isWord("retries")) {
        right = takeNumber(0, 9);
        plan.retries = number;
      }
      return right;
    }

    private boolean office(Plan plan) {
      if (offices >= MAX_OFFICES || !takeNumber(0, plan.circle() - 1)) {
        return false;
      }
      Desk desk = plan.desk(offices);
      desk.phase = number;
      if (!takeNumber(MIN_RATE, MAX_RATE)) {
        return false;
      }
      desk.rate = number;
      offices++;
      return true;
    }

    private boolean loss(Plan plan) {
      if (plan.losses.size() >= MAX_LOSSES || !takeNumber(1, 9999)) {
        return false;
      }
      plan.losses.add(number);
      return true;
    }

    private boolean message(Plan plan) {
      if (!takeNumber(0, 1)) {
        return false;
      }
      Desk desk = plan.desk(number);
      if (!desk.addLine()) {
        return false;
      }
      int items = 0;
      tokens.take();
      while (items < MAX_INPUT && tokens.kind != Tokens.SEMICOLON) {
        if (!item(desk, plan.positions)) {
          return false;
        }
        items++;
        tokens.take();
      }
      return items > 0;
    }

    private boolean item(Desk desk, int positions) {
      if (tokens.kind == Tokens.SLASH) {
        return desk.addLine();
      }
      Line line = desk.line(desk.lineCount - 1);
      if (line == null || (tokens.kind != Tokens.WORD && tokens.kind != Tokens.NUMBER)) {
        return false;
      }
      if (line.characters.size() + tokens.length() > MAX_LINE_LENGTH) {
        return false;
      }
      for (int i = 0; i < tokens.length(); i++) {
        int sign = tokens.signAt(i);
        if (Line.wheelIndex(sign) >= positions - SHIFTS) {
          return false;
        }
        line.characters.add(sign);
      }
      return true;
    }

    private boolean takeNumber(int low, int high) {
      tokens.take();
      number = tokens.number();
      return number >= low && number <= high;
    }

    private boolean takeSemicolon() {
      tokens.take();
      return tokens.kind == Tokens.SEMICOLON;
    }
  }

  /** An office at work: its wheel, and what it has done and printed. */
  private static final class Office {
    private static final int MAX_RECEIVED = 1000;

    int phase;
    int rate;
    int linesDone;
    int prints;
    int misprints;
    int worstOffset;
    long offsetSum;
    final Row received = new Row(MAX_RECEIVED);

    void begin(Desk desk) {
      phase = desk.phase;
      rate = desk.rate;
      linesDone = 0;
      prints = 0;
      misprints = 0;
      worstOffset = 0;
      offsetSum = 0;
      received.clear();
    }

    void copyFrom(Office other) {
      phase = other.phase;
      rate = other.rate;
      linesDone = other.linesDone;
      prints = other.prints;
      misprints = other.misprints;
      worstOffset = other.worstOffset;
      offsetSum = other.offsetSum;
      received.copyFrom(other.received);
    }

    void turn(int change, int circle) {
      phase = modulo(phase + change, circle);
    }

    /** A wheel at the end of its circle is nearest to position N, which is position 0. */
    int nearestPosition() {
      return (phase + UNIT / 2) / UNIT;
    }

    /** Prints the position that the wheel faces, and corrects the wheel; returns the position. */
    int print(int correction, int positions) {
      int nearest = nearestPosition();
      int offset = phase - UNIT * nearest;
      prints++;
      offsetSum += offset;
      worstOffset = Math.max(worstOffset, Math.abs(offset));
      int corrected = Math.max(-correction, Math.min(offset, correction));
      turn(-corrected, UNIT * positions);
      return modulo(nearest, positions);
    }
  }

  /** What the receiver knows of the line that it is receiving. */
  private static final class Receiver {
    private static final int MAX_BUFFER = 40;

    final Row buffer = new Row(MAX_BUFFER);
    int count;
    int shift;
    boolean expectsCheck;

    void clear() {
      buffer.clear();
      count = 0;
      shift = LETTER_SHIFT;
      expectsCheck = false;
    }

    void copyFrom(Receiver other) {
      buffer.copyFrom(other.buffer);
      count = other.count;
      shift = other.shift;
      expectsCheck = other.expectsCheck;
    }

    /** Takes a position that is no check. */
    void take(int position) {
      if (position == shift) {
        expectsCheck = true;
        return;
      }
      if (position < SHIFTS) {
        shift = position;
      } else {
        buffer.add(characterOf(position, shift == FIGURE_SHIFT));
      }
      count++;
    }
  }

  /** The two offices with all that is between them; the state that ticks change. */
  private static final class Machine {
    // What a record of the transit tells: when it arrives, of what kind it is, what a pulse sends.
    private static final int ARRIVAL = 0;
    private static final int KIND = 1;
    private static final int POSITION = 2;
    private static final int PULSE = 0;
    private static final int GOOD_ANSWER = 1;
    private static final int BAD_ANSWER = 2;
    private static final int BREAK = 3;

    private static final int LINE_GOOD = 1;
    private static final int LINE_BAD = 2;
    private static final int LINE_REPEATED = 3;
    private static final int LINE_GIVEN_UP = 4;
    private static final int BREAK_ARRIVED = 5;
    private static final int ALL_DONE = 6;

    private static final int MAX_EVENTS = 40;
    // A pulse and an answer a tick for 50 ticks, and a break a call for 512 calls.
    private static final int MAX_UNDER_WAY = 640;

    Plan plan;
    int time;
    int correction;
    int sender = NONE;
    boolean waiting;
    int waitsUntil;
    int sent;
    int repeated;
    int latestArrival;
    int pulses;
    int lostPulses;
    final Office first = new Office();
    final Office second = new Office();
    final Receiver receiver = new Receiver();
    final Records transit = new Records(MAX_UNDER_WAY);
    final Records events = new Records(MAX_EVENTS);
    final Row losses = new Row(MAX_LOSSES);

    Machine(Plan plan) {
      begin(plan);
    }

    void begin(Plan described) {
      plan = described;
      time = 0;
      correction = plan.correction;
      pulses = 0;
      lostPulses = 0;
      first.begin(plan.first);
      second.begin(plan.second);
      events.clear();
      losses.copyFrom(plan.losses);
      latestArrival = 0;
      endTransmission();
    }

    void copyFrom(Machine other) {
      plan = other.plan;
      time = other.time;
      correction = other.correction;
      sender = other.sender;
      waiting = other.waiting;
      waitsUntil = other.waitsUntil;
      sent = other.sent;
      repeated = other.repeated;
      latestArrival = other.latestArrival;
      pulses = other.pulses;
      lostPulses = other.lostPulses;
      first.copyFrom(other.first);
      second.copyFrom(other.second);
      receiver.copyFrom(other.receiver);
      transit.copyFrom(other.transit);
      events.copyFrom(other.events);
      losses.copyFrom(other.losses);
    }

    Office office(int number) {
      return number == 1 ? second : first;
    }

    int silentTicks() {
      return time - latestArrival;
    }

    /** All that belongs to the line was reset by the end of the transmission before. */
    void beginTransmission(int office) {
      sender = office;
      latestArrival = time;
      receiver.clear();
    }

    int sendBreak() {
      int arrival = time + plan.delay;
      transit.add(arrival, BREAK, NONE);
      return arrival;
    }

    /** The parts (a) to (e) of the document's section ONE TICK, in this order. */
    void tick() {
      time++;
      first.turn(first.rate, plan.circle());
      second.turn(second.rate, plan.circle());
      for (int left = transit.size(); left > 0 && isArrivalDue(); left--) {
        int kind = transit.get(0, KIND);
        int position = transit.get(0, POSITION);
        transit.removeFirst();
        if (kind == PULSE) {
          takePulse(position);
        } else {
          takeSignal(kind);
        }
      }
      sendIfPassing();
      if (waiting && time >= waitsUntil) {
        endLine(false);
      }
      if (sender != NONE && silentTicks() >= plan.guard) {
        receiver.clear();
      }
    }

    /** The end of a transmission empties the transit, so its size is asked again each time. */
    private boolean isArrivalDue() {
      return transit.size() > 0 && transit.get(0, ARRIVAL) <= time;
    }

    private void takeSignal(int kind) {
      if (kind == BREAK) {
        events.add(time, BREAK_ARRIVED, office(sender).linesDone);
        endTransmission();
      } else if (waiting) {
        endLine(kind == GOOD_ANSWER);
      }
    }

    private void takePulse(int position) {
      Office printing = office(1 - sender);
      latestArrival = time;
      int printed = printing.print(correction, plan.positions);
      if (printed != position) {
        printing.misprints++;
      }
      if (receiver.expectsCheck) {
        checkLine(printing, printed);
      } else {
        receiver.take(printed);
      }
    }

    private void checkLine(Office printing, int printed) {
      boolean good = printed == checkPosition(receiver.count, plan.positions);
      if (good) {
        Row buffer = receiver.buffer;
        for (int i = 0; i < buffer.size(); i++) {
          printing.received.add(buffer.get(i));
        }
        printing.received.add('/');
        events.add(time, LINE_GOOD, buffer.size());
      } else {
        events.add(time, LINE_BAD, receiver.count);
      }
      transit.add(time + plan.delay, good ? GOOD_ANSWER : BAD_ANSWER, NONE);
      receiver.clear();
    }

    private void sendIfPassing() {
      int position = nextPosition();
      if (position == NONE) {
        return;
      }
      Office own = office(sender);
      if (modulo(own.phase - UNIT * position, plan.circle()) >= own.rate) {
        return;
      }
      sendPulse(position);
      sent++;
      if (nextPosition() == NONE) {
        waiting = true;
        waitsUntil = time + 2 * plan.delay + plan.guard;
      }
    }

    private void sendPulse(int position) {
      pulses++;
      if (losses.holds(pulses)) {
        lostPulses++;
      } else {
        transit.add(time + plan.delay, PULSE, position);
      }
    }

    /** The position that the sender will send next; NONE if there is none to send. */
    int nextPosition() {
      if (sender == NONE || waiting) {
        return NONE;
      }
      Line line = plan.desk(sender).line(office(sender).linesDone);
      return line == null ? NONE : line.pulses.get(sent);
    }

    private void endLine(boolean good) {
      Office own = office(sender);
      waiting = false;
      sent = 0;
      if (!good && repeated < plan.retries) {
        repeated++;
        events.add(time, LINE_REPEATED, own.linesDone);
        return;
      }
      if (!good) {
        events.add(time, LINE_GIVEN_UP, own.linesDone);
      }
      own.linesDone++;
      repeated = 0;
      if (own.linesDone >= plan.desk(sender).lineCount) {
        events.add(time, ALL_DONE, sender);
        endTransmission();
      }
    }

    private void endTransmission() {
      sender = NONE;
      waiting = false;
      sent = 0;
      repeated = 0;
      receiver.clear();
      transit.clear();
    }
  }

  /** The states before the latest actions. */
  private static final class History {
    private static final int MAX_KEPT = 10;

    private final Machine[] kept = new Machine[MAX_KEPT];
    private int first;
    private int size;

    History(Plan plan) {
      for (int i = 0; i < kept.length; i++) {
        kept[i] = new Machine(plan);
      }
    }

    int size() {
      return size;
    }

    void clear() {
      size = 0;
    }

    void keep(Machine machine) {
      if (size == MAX_KEPT) {
        first = (first + 1) % MAX_KEPT;
        size--;
      }
      Machine slot = slot(size);
      if (slot != null) {
        slot.copyFrom(machine);
        size++;
      }
    }

    void restore(Machine machine) {
      Machine slot = slot(size - 1);
      if (slot != null) {
        machine.copyFrom(slot);
        size--;
      }
    }

    private Machine slot(int index) {
      int place = (first + index) % MAX_KEPT;
      return place >= 0 && place < kept.length ? kept[place] : null;
    }
  }
}
