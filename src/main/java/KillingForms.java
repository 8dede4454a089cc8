/** A bench for forms of three letters with numbers modulo 101, and for the operators that kill them. */
public final class KillingForms {
  public static final int BAD = -1, NOT = -2, FULL = -3, STATE = -5;

  private static final int MISSING = -11, OUTSIDE = -13, TOO_SMALL = -14, NOT_TAKEN = -16;
  private static final int FAULT = -100, REFUSED = -200, WELL_SO_FAR = 100;

  private static final int PRIME = 101, MOST_DEGREE = 5, MOST_MONOMIALS = 21;
  private static final int REGISTERS = 4, LINES = 6, RACKS = 3, PLACES = 4;
  private static final int ROWS = 3, ROW_SIZE = 40, STEPS = 8, TAPE_SIZE = 80, WRITTEN_SIZE = 200;

  private static final int FORM = 0, LINE = 1, NOTHING = -2;

  // The powers of y and of z are the same at a place whatever the degree: only that of x tells it.
  private static final int[] Y_POWERS = {0, 1, 0, 2, 1, 0, 3, 2, 1, 0, 4, 3, 2, 1, 0, 5, 4, 3, 2, 1, 0};
  private static final int[] Z_POWERS = {0, 0, 1, 0, 1, 2, 0, 1, 2, 3, 0, 1, 2, 3, 4, 0, 1, 2, 3, 4, 5};

  private final Bench bench = new Bench();
  private final Bench kept = new Bench();
  private boolean imageTaken = false;
  private final Steps steps = new Steps();
  private final Rows rows = new Rows();
  private final Tape tape = new Tape();
  private final Reader reader = new Reader(tape);
  private final Writer writer = new Writer();
  private final Table table = new Table();
  private final Parts parts = new Parts(table);
  private final Form made = new Form();

  public KillingForms() {
  }

  public int zero(int r, int d) {
    if (!isRegister(r) || !isDegree(d)) {
      return BAD;
    }
    int before = bench.registers[r].degree;
    made.clear(d);
    change(FORM, r, made);
    return before;
  }

  public int put(int r, int a, int b, int v) {
    if (!isRegister(r) || !isMonomial(bench.registers[r].degree, a, b) || !isNumber(v)) {
      return BAD;
    }
    Form form = bench.registers[r];
    int place = placeOf(b, form.degree - a - b);
    int before = form.number(place);
    made.copyFrom(form);
    made.set(place, v);
    change(FORM, r, made);
    return before;
  }

  public int of(int r, int a, int b) {
    if (!isRegister(r) || !isMonomial(bench.registers[r].degree, a, b)) {
      return BAD;
    }
    Form form = bench.registers[r];
    return form.number(placeOf(b, form.degree - a - b));
  }

  public int told(int r, int what) {
    if (!isRegister(r) || !isWithin(what, 4)) {
      return BAD;
    }
    Form form = bench.registers[r];
    switch (what) {
      case 0:
        return form.degree;
      case 1:
        return form.size();
      case 2:
        return form.filled();
      default:
        return form.isOfTwoLetters() ? 1 : 0;
    }
  }

  public int sum(int r, int s, int t, int v) {
    if (!isRegister(r) || !isRegister(s) || !isRegister(t) || !isNumber(v)) {
      return BAD;
    }
    Form one = bench.registers[s];
    Form other = bench.registers[t];
    if (one.degree != other.degree) {
      return STATE;
    }
    made.copyFrom(one);
    made.addTimes(other, v);
    change(FORM, r, made);
    return made.degree;
  }

  public int contract(int r, int s, int t) {
    if (!isRegister(r) || !isRegister(s) || !isRegister(t)) {
      return BAD;
    }
    Form operator = bench.registers[s];
    Form form = bench.registers[t];
    if (operator.degree > form.degree) {
      return STATE;
    }
    made.becomeContracted(operator, form);
    change(FORM, r, made);
    return made.degree;
  }

  public int multiply(int r, int s, int t) {
    if (!isRegister(r) || !isRegister(s) || !isRegister(t)) {
      return BAD;
    }
    Form one = bench.registers[s];
    Form other = bench.registers[t];
    if (one.degree + other.degree > MOST_DEGREE) {
      return STATE;
    }
    made.becomeProduct(one, other);
    change(FORM, r, made);
    return made.degree;
  }

  public int line(int k, int u, int v, int w) {
    if (!isLine(k) || !isNumber(u) || !isNumber(v) || !isNumber(w)) {
      return BAD;
    }
    made.becomeLine(u, v, w);
    change(LINE, k, made);
    return 1;
  }

  public int lineOf(int k, int i) {
    if (!isLine(k) || !isWithin(i, 3)) {
      return BAD;
    }
    return bench.lines[k].number(i);
  }

  public int power(int r, int k, int d) {
    if (!isRegister(r) || !isLine(k) || !isDegree(d)) {
      return BAD;
    }
    made.clear(d);
    made.addPower(bench.lines[k], 1);
    change(FORM, r, made);
    return d;
  }

  public int adds(int r, int k, int v) {
    if (!isRegister(r) || !isLine(k) || !isNumber(v)) {
      return BAD;
    }
    made.copyFrom(bench.registers[r]);
    made.addPower(bench.lines[k], v);
    change(FORM, r, made);
    return made.degree;
  }

  public int value(int r, int k) {
    if (!isRegister(r) || !isLine(k)) {
      return BAD;
    }
    return bench.registers[r].valueAt(bench.lines[k]);
  }

  public int kills(int s, int t) {
    if (!isRegister(s) || !isRegister(t)) {
      return BAD;
    }
    Form operator = bench.registers[s];
    Form form = bench.registers[t];
    if (operator.degree > form.degree) {
      return STATE;
    }
    made.becomeContracted(operator, form);
    return made.filled() == 0 ? 1 : 0;
  }

  public int rank(int r, int e) {
    if (!isRegister(r) || e < 0 || e > bench.registers[r].degree) {
      return BAD;
    }
    table.takeContractions(bench.registers[r], e);
    return table.reduce();
  }

  public int killer(int r, int e, int k, int i) {
    if (!isRegister(r) || e < 0 || e > bench.registers[r].degree) {
      return BAD;
    }
    if (k < -1 || (k >= 0 && !isWithin(i, monomials(e)))) {
      return BAD;
    }
    table.takeContractions(bench.registers[r], e);
    int killers = monomials(e) - table.reduce();
    if (k == -1) {
      return killers;
    }
    return k < killers ? table.solution(table.freeColumn(k), i) : NOT;
  }

  public int deep(int r) {
    if (!isRegister(r)) {
      return BAD;
    }
    return parts.sound(bench.registers[r]) ? parts.deep : STATE;
  }

  public int deepest(int r, int i) {
    if (!isRegister(r) || i < 0) {
      return BAD;
    }
    if (!parts.sound(bench.registers[r])) {
      return STATE;
    }
    return i <= parts.deep ? parts.operatorNumber(i) : BAD;
  }

  public int root(int r, int i) {
    if (!isRegister(r) || i < -1) {
      return BAD;
    }
    if (!parts.sound(bench.registers[r])) {
      return STATE;
    }
    int many = parts.findRoots();
    if (i == -1) {
      return many;
    }
    return i < many ? parts.rootAt(i) : NOT;
  }

  public int weight(int r, int i) {
    if (!isRegister(r) || i < 0) {
      return BAD;
    }
    Form form = bench.registers[r];
    if (!parts.sound(form)) {
      return STATE;
    }
    int many = parts.findRoots();
    if (many != parts.deep || parts.deep > form.degree) {
      return STATE;
    }
    return i < many ? parts.weightOf(form, i) : NOT;
  }

  public int tangent(int d, int lines, int what) {
    if (d < 1 || d > MOST_DEGREE || !isWithin(lines, 1 << LINES) || !isWithin(what, 2)) {
      return BAD;
    }
    if (what == 1) {
      return Math.min(3 * Integer.bitCount(lines), monomials(d));
    }
    table.shape(3 * LINES, monomials(d));
    for (int k = 0; k < LINES; k++) {
      if ((lines >> k & 1) == 1) {
        table.takeTangents(3 * k, bench.lines[k], d);
      }
    }
    return table.reduce();
  }

  public int lead(int r, int k, int what) {
    if (!isRegister(r) || k < 0 || !isWithin(what, 2)) {
      return BAD;
    }
    Form form = bench.registers[r];
    int place = form.leadPlace(k);
    if (place < 0) {
      return NOT;
    }
    return what == 0 ? 10 * xPower(form.degree, place) + Y_POWERS[place] : form.number(place);
  }

  public int tally(int r, int k, int what) {
    if (!isRegister(r) || k < -1 || (k >= 0 && !isWithin(what, 2))) {
      return BAD;
    }
    Form form = bench.registers[r];
    int unlike = 0;
    for (int v = PRIME - 1; v >= 0; v--) {
      int many = form.manyOf(v);
      if (many > 0 && unlike == k) {
        return what == 0 ? v : many;
      }
      if (many > 0) {
        unlike++;
      }
    }
    return k == -1 ? unlike : NOT;
  }

  public int store(int rack, int i, int kind, int k) {
    if (!isWithin(rack, RACKS) || !isWithin(kind, 2) || !isOfKind(kind, k)) {
      return BAD;
    }
    if (!isWithin(i, PLACES)) {
      return OUTSIDE;
    }
    if ((rack == 0 && kind != FORM) || (rack == 1 && kind != LINE)) {
      return NOT_TAKEN;
    }
    bench.hold(rack * PLACES + i, kind, k);
    return 1;
  }

  public int holds(int rack, int i) {
    if (!isWithin(rack, RACKS)) {
      return BAD;
    }
    if (!isWithin(i, PLACES)) {
      return OUTSIDE;
    }
    int kind = bench.heldKinds[rack * PLACES + i];
    return kind == NOTHING ? NOT : kind;
  }

  public int fetch(int rack, int i, int k) {
    int kind = holds(rack, i);
    if (kind < 0) {
      return kind;
    }
    if (!isOfKind(kind, k)) {
      return BAD;
    }
    change(kind, k, bench.held[rack * PLACES + i]);
    return kind;
  }

  public int row(int row, int n) {
    if (!isWithin(row, ROWS) || n > ROW_SIZE) {
      return BAD;
    }
    if (n < -1) {
      return TOO_SMALL;
    }
    rows.lose(row);
    if (n >= 0) {
      rows.begin(row, n);
    }
    return 1;
  }

  public int lay(int row, int i, int v) {
    int refusal = rows.refusal(row, i);
    if (refusal == 0) {
      rows.set(row, i, v);
      return 1;
    }
    return refusal;
  }

  public int get(int row, int i) {
    int refusal = rows.refusal(row, i);
    return refusal == 0 ? rows.number(row, i) : refusal;
  }

  public int film(int row, int r) {
    if (!isWithin(row, ROWS) || !isRegister(r)) {
      return BAD;
    }
    Form form = bench.registers[r];
    rows.begin(row, form.size());
    for (int i = 0; i < form.size(); i++) {
      rows.set(row, i, form.number(i));
    }
    return form.size();
  }

  public int judge(int row, int r) {
    if (!isWithin(row, ROWS) || !isRegister(r)) {
      return BAD;
    }
    if (rows.isMissing(row)) {
      return MISSING;
    }
    int size = rows.sizeOf(row);
    for (int i = 0; i < size; i++) {
      if (i >= LINES || rows.number(row, i) != bench.registers[r].valueAt(bench.lines[i])) {
        return i;
      }
    }
    return size < LINES ? WELL_SO_FAR + size : NOT;
  }

  public int say(int r, int i) {
    if (!isRegister(r) || i < -1) {
      return BAD;
    }
    int length = writer.write(bench.registers[r]);
    if (i == -1) {
      return length;
    }
    return i < length ? writer.letter(i) : NOT;
  }

  public int back() {
    if (steps.many == 0) {
      return STATE;
    }
    Step latest = steps.latest();
    bench.pick(latest.kind, latest.k).copyFrom(latest.before);
    steps.drop();
    return steps.many;
  }

  public int feed(int letter) {
    if (letter < 32 || letter > 126) {
      return BAD;
    }
    if (tape.length >= TAPE_SIZE) {
      return FULL;
    }
    tape.add(letter);
    return tape.length;
  }

  public int wipe() {
    int had = tape.length;
    tape.length = 0;
    return had;
  }

  public int read() {
    int fault = reader.findFault();
    int answer = fault >= 0 ? FAULT - fault : doActs();
    tape.length = 0;
    return answer;
  }

  public int image() {
    kept.copyFrom(bench);
    imageTaken = true;
    return bench.degreesTogether();
  }

  public int restore() {
    if (!imageTaken) {
      return STATE;
    }
    bench.copyFrom(kept);
    steps.many = 0;
    return bench.degreesTogether();
  }

  public int count(int what) {
    switch (what) {
      case 0:
        return steps.many;
      case 1:
        return tape.length;
      case 2:
        return bench.placesHolding();
      case 3:
        return bench.linesNotZero();
      case 4:
        return rows.manyThere();
      default:
        return BAD;
    }
  }

  private static boolean isWithin(int i, int end) {
    return i >= 0 && i < end;
  }

  private static boolean isRegister(int r) {
    return isWithin(r, REGISTERS);
  }

  private static boolean isLine(int k) {
    return isWithin(k, LINES);
  }

  private static boolean isOfKind(int kind, int k) {
    return kind == FORM ? isRegister(k) : isLine(k);
  }

  private static boolean isDegree(int d) {
    return d >= 0 && d <= MOST_DEGREE;
  }

  private static boolean isNumber(int v) {
    return isWithin(v, PRIME);
  }

  // a is taken from the degree, not added to b: their sum may wrap around.
  private static boolean isMonomial(int degree, int a, int b) {
    return a >= 0 && a <= degree && b >= 0 && b <= degree - a;
  }

  private static int monomials(int degree) {
    return (degree + 1) * (degree + 2) / 2;
  }

  private static int placeOf(int yPower, int zPower) {
    int rest = yPower + zPower;
    return rest * (rest + 1) / 2 + zPower;
  }

  private static int xPower(int degree, int place) {
    return degree - Y_POWERS[place] - Z_POWERS[place];
  }

  private static int raised(int base, int exponent) {
    int result = 1;
    for (int i = 0; i < exponent; i++) {
      result = result * base % PRIME;
    }
    return result;
  }

  private static int negative(int v) {
    return (PRIME - v) % PRIME;
  }

  private static int monomialAt(Form line, int a, int b, int c) {
    int ofTwo = raised(line.number(0), a) * raised(line.number(1), b) % PRIME;
    return ofTwo * raised(line.number(2), c) % PRIME;
  }

  /** A register or a line becomes what is given; it is a step only if it was otherwise. */
  private void change(int kind, int k, Form next) {
    Form held = bench.pick(kind, k);
    if (!held.isSameAs(next)) {
      steps.push(kind, k, held);
      held.copyFrom(next);
    }
  }

  private int doActs() {
    int done = 0;
    reader.begin();
    while (done < TAPE_SIZE && reader.hasMore()) {
      reader.readAct();
      if (!doAct()) {
        return REFUSED - done;
      }
      done++;
    }
    return done;
  }

  /** Does the act that was read last; false if it is refused. */
  private boolean doAct() {
    int first = reader.operand(0);
    switch (reader.act) {
      case Reader.FORM_ACT:
        return doForm(first);
      case Reader.LINE_ACT:
        return line(first, reader.operand(1), reader.operand(2), reader.operand(3)) >= 0;
      case Reader.ADD_ACT:
        return adds(first, reader.operand(1), reader.operand(2)) >= 0;
      default:
        return zero(first, reader.operand(1)) >= 0;
    }
  }

  private boolean doForm(int r) {
    if (!isRegister(r) || reader.isSumRefused()) {
      return false;
    }
    change(FORM, r, reader.sum);
    return true;
  }

  /** The numbers of a form by monomials. A line u, v, w is kept as the form of degree 1 with these numbers. */
  private static final class Form {
    private final int[] numbers = new int[MOST_MONOMIALS];
    private int degree = 0;

    int size() {
      return monomials(degree);
    }

    int number(int place) {
      return place >= 0 && place < MOST_MONOMIALS ? numbers[place] : 0;
    }

    void set(int place, int v) {
      if (place >= 0 && place < MOST_MONOMIALS) {
        numbers[place] = v;
      }
    }

    void plus(int place, int v) {
      if (place >= 0 && place < MOST_MONOMIALS) {
        numbers[place] = (numbers[place] + v) % PRIME;
      }
    }

    void clear(int newDegree) {
      degree = newDegree;
      for (int i = 0; i < MOST_MONOMIALS; i++) {
        numbers[i] = 0;
      }
    }

    void copyFrom(Form other) {
      degree = other.degree;
      System.arraycopy(other.numbers, 0, numbers, 0, MOST_MONOMIALS);
    }

    boolean isSameAs(Form other) {
      if (degree != other.degree) {
        return false;
      }
      for (int i = 0; i < size(); i++) {
        if (number(i) != other.number(i)) {
          return false;
        }
      }
      return true;
    }

    int manyOf(int v) {
      int many = 0;
      for (int i = 0; i < size(); i++) {
        if (number(i) == v) {
          many++;
        }
      }
      return many;
    }

    int filled() {
      return size() - manyOf(0);
    }

    boolean isOfTwoLetters() {
      for (int i = 0; i < size(); i++) {
        if (number(i) != 0 && Z_POWERS[i] > 0) {
          return false;
        }
      }
      return true;
    }

    void becomeLine(int u, int v, int w) {
      clear(1);
      set(0, u);
      set(1, v);
      set(2, w);
    }

    void addTimes(Form other, int v) {
      for (int i = 0; i < size(); i++) {
        plus(i, other.number(i) * v);
      }
    }

    void addPower(Form line, int v) {
      for (int i = 0; i < size(); i++) {
        plus(i, monomialAt(line, xPower(degree, i), Y_POWERS[i], Z_POWERS[i]) * v);
      }
    }

    int valueAt(Form line) {
      int together = 0;
      for (int i = 0; i < size(); i++) {
        int monomial = monomialAt(line, xPower(degree, i), Y_POWERS[i], Z_POWERS[i]);
        together = (together + number(i) * monomial) % PRIME;
      }
      return together;
    }

    /** Neither the operator nor the form may be this one. */
    void becomeContracted(Form operator, Form form) {
      clear(form.degree - operator.degree);
      for (int p = 0; p < operator.size(); p++) {
        for (int q = 0; q < form.size(); q++) {
          int a = xPower(form.degree, q) - xPower(operator.degree, p);
          int b = Y_POWERS[q] - Y_POWERS[p];
          int c = Z_POWERS[q] - Z_POWERS[p];
          if (a >= 0 && b >= 0 && c >= 0) {
            plus(placeOf(b, c), operator.number(p) * form.number(q));
          }
        }
      }
    }

    /** Neither of the two may be this one. */
    void becomeProduct(Form one, Form other) {
      clear(one.degree + other.degree);
      for (int p = 0; p < one.size(); p++) {
        for (int q = 0; q < other.size(); q++) {
          int place = placeOf(Y_POWERS[p] + Y_POWERS[q], Z_POWERS[p] + Z_POWERS[q]);
          plus(place, one.number(p) * other.number(q));
        }
      }
    }

    /** The place of the k-th monomial of the lead, or -1. */
    int leadPlace(int k) {
      for (int i = 0; i < size(); i++) {
        if (number(i) != 0 && manyAheadOf(i) == k) {
          return i;
        }
      }
      return -1;
    }

    private int manyAheadOf(int place) {
      int many = 0;
      for (int i = 0; i < size(); i++) {
        if (number(i) > number(place) || (number(i) == number(place) && i < place)) {
          many++;
        }
      }
      return many;
    }
  }

  /** What an image holds: the registers, the lines and the racks, place behind place. */
  private static final class Bench {
    private final Form[] registers = new Form[REGISTERS];
    private final Form[] lines = new Form[LINES];
    private final Form[] held = new Form[RACKS * PLACES];
    private final int[] heldKinds = new int[RACKS * PLACES];

    Bench() {
      for (int i = 0; i < REGISTERS; i++) {
        registers[i] = new Form();
      }
      for (int i = 0; i < LINES; i++) {
        lines[i] = new Form();
        lines[i].becomeLine(0, 0, 0);
      }
      for (int i = 0; i < RACKS * PLACES; i++) {
        held[i] = new Form();
        heldKinds[i] = NOTHING;
      }
    }

    Form pick(int kind, int k) {
      return kind == FORM ? registers[k] : lines[k];
    }

    void hold(int place, int kind, int k) {
      held[place].copyFrom(pick(kind, k));
      heldKinds[place] = kind;
    }

    void copyFrom(Bench other) {
      for (int i = 0; i < REGISTERS; i++) {
        registers[i].copyFrom(other.registers[i]);
      }
      for (int i = 0; i < LINES; i++) {
        lines[i].copyFrom(other.lines[i]);
      }
      for (int i = 0; i < RACKS * PLACES; i++) {
        held[i].copyFrom(other.held[i]);
        heldKinds[i] = other.heldKinds[i];
      }
    }

    int degreesTogether() {
      int together = 0;
      for (int i = 0; i < REGISTERS; i++) {
        together += registers[i].degree;
      }
      return together;
    }

    int placesHolding() {
      int many = 0;
      for (int i = 0; i < RACKS * PLACES; i++) {
        if (heldKinds[i] != NOTHING) {
          many++;
        }
      }
      return many;
    }

    int linesNotZero() {
      int many = 0;
      for (int i = 0; i < LINES; i++) {
        if (lines[i].filled() > 0) {
          many++;
        }
      }
      return many;
    }
  }

  /** What a register or a line was before it became otherwise. */
  private static final class Step {
    private final Form before = new Form();
    private int kind = FORM;
    private int k = 0;
  }

  /** The latest steps, in a ring: the eldest gives way. */
  private static final class Steps {
    private final Step[] ring = new Step[STEPS];
    private int next = 0;
    private int many = 0;

    Steps() {
      for (int i = 0; i < STEPS; i++) {
        ring[i] = new Step();
      }
    }

    void push(int kind, int k, Form before) {
      Step step = ring[next];
      step.kind = kind;
      step.k = k;
      step.before.copyFrom(before);
      next = (next + 1) % STEPS;
      many = Math.min(many + 1, STEPS);
    }

    Step latest() {
      return ring[(next + STEPS - 1) % STEPS];
    }

    void drop() {
      next = (next + STEPS - 1) % STEPS;
      many = Math.max(many - 1, 0);
    }
  }

  /** A table of numbers, and what is known of its columns once it is reduced. */
  private static final class Table {
    private static final int FREE = -1;

    private final int[][] cells = new int[MOST_MONOMIALS][MOST_MONOMIALS];
    private final int[] leadingRows = new int[MOST_MONOMIALS];
    private int height = 0;
    private int width = 0;

    void shape(int newHeight, int newWidth) {
      height = Math.min(Math.max(newHeight, 0), MOST_MONOMIALS);
      width = Math.min(Math.max(newWidth, 0), MOST_MONOMIALS);
      for (int i = 0; i < height; i++) {
        for (int j = 0; j < width; j++) {
          cells[i][j] = 0;
        }
      }
    }

    void set(int i, int j, int v) {
      if (isWithin(i, height) && isWithin(j, width)) {
        cells[i][j] = v;
      }
    }

    /** A column for each monomial of degree e, with the form contracted by it downwards. */
    void takeContractions(Form form, int e) {
      int left = form.degree - e;
      shape(monomials(left), monomials(e));
      for (int i = 0; i < height; i++) {
        for (int j = 0; j < width; j++) {
          int place = placeOf(Y_POWERS[i] + Y_POWERS[j], Z_POWERS[i] + Z_POWERS[j]);
          set(i, j, form.number(place));
        }
      }
    }

    void takeTangents(int firstRow, Form line, int d) {
      for (int j = 0; j < width; j++) {
        int a = xPower(d, j);
        int b = Y_POWERS[j];
        int c = Z_POWERS[j];
        if (a > 0) {
          set(firstRow, j, a * monomialAt(line, a - 1, b, c) % PRIME);
        }
        if (b > 0) {
          set(firstRow + 1, j, b * monomialAt(line, a, b - 1, c) % PRIME);
        }
        if (c > 0) {
          set(firstRow + 2, j, c * monomialAt(line, a, b, c - 1) % PRIME);
        }
      }
    }

    /** Reduces the table column by column; answers its rank. */
    int reduce() {
      int rank = 0;
      for (int j = 0; j < width; j++) {
        int i = rowLeadingAt(j, rank);
        leadingRows[j] = i == FREE ? FREE : rank;
        if (i != FREE) {
          swap(i, rank);
          scale(rank, j);
          clearColumn(rank, j);
          rank++;
        }
      }
      return rank;
    }

    private int rowLeadingAt(int j, int firstRow) {
      for (int i = firstRow; i < height; i++) {
        if (cells[i][j] != 0) {
          return i;
        }
      }
      return FREE;
    }

    private void swap(int i, int k) {
      int[] moved = cells[i];
      cells[i] = cells[k];
      cells[k] = moved;
    }

    private void scale(int i, int firstColumn) {
      int inverse = raised(cells[i][firstColumn], PRIME - 2);
      for (int j = firstColumn; j < width; j++) {
        cells[i][j] = cells[i][j] * inverse % PRIME;
      }
    }

    private void clearColumn(int leading, int column) {
      for (int i = 0; i < height; i++) {
        int times = negative(cells[i][column]);
        if (i != leading && times != 0) {
          for (int j = column; j < width; j++) {
            cells[i][j] = (cells[i][j] + times * cells[leading][j]) % PRIME;
          }
        }
      }
    }

    /** The k-th column that depends on those ahead of it, or -1. */
    int freeColumn(int k) {
      int seen = 0;
      for (int j = 0; j < width; j++) {
        if (leadingRows[j] == FREE && seen == k) {
          return j;
        }
        if (leadingRows[j] == FREE) {
          seen++;
        }
      }
      return -1;
    }

    /** The last such column, or -1. */
    int lastFreeColumn() {
      for (int j = width - 1; j >= 0; j--) {
        if (leadingRows[j] == FREE) {
          return j;
        }
      }
      return -1;
    }

    /** How often column j is taken where the columns together are 0, a free one once and the other free ones not. */
    int solution(int free, int j) {
      if (!isWithin(free, width) || !isWithin(j, width)) {
        return 0;
      }
      if (leadingRows[j] == FREE) {
        return j == free ? 1 : 0;
      }
      return negative(cells[leadingRows[j]][free]);
    }
  }

  /** Takes a form of two letters apart: the first operator that kills it, its roots, their weights. */
  private static final class Parts {
    private static final int NO_ROOT_OF_X = 101;
    private static final int MOST_DEEP = MOST_DEGREE + 1;

    private final Table table;
    private final int[] operator = new int[MOST_DEEP + 1];
    private final int[] roots = new int[MOST_DEEP];
    private int deep = 0;
    private int manyRoots = 0;

    Parts(Table table) {
      this.table = table;
    }

    /** Finds how deep the form is; false if it is not in two letters, or 0 everywhere. */
    boolean sound(Form form) {
      if (!form.isOfTwoLetters() || form.filled() == 0) {
        return false;
      }
      for (int e = 0; e <= form.degree + 1; e++) {
        takeOperators(form, e);
        table.reduce();
        int free = table.lastFreeColumn();
        if (free >= 0) {
          keepOperator(e, free);
          return true;
        }
      }
      return false;
    }

    // Columns stand in falling order of places: then the last free one belongs to the
    // operator whose first place is the earliest, with 0 wherever the choice is free.
    private void takeOperators(Form form, int e) {
      table.shape(form.degree - e + 1, e + 1);
      for (int i = 0; i <= form.degree - e; i++) {
        for (int j = 0; j <= e; j++) {
          table.set(i, e - j, form.number(placeOf(i + j, 0)));
        }
      }
    }

    private void keepOperator(int e, int free) {
      deep = Math.min(e, MOST_DEEP);
      for (int i = 0; i <= deep; i++) {
        operator[i] = table.solution(free, deep - i);
      }
    }

    int operatorNumber(int i) {
      return isWithin(i, deep + 1) ? operator[i] : 0;
    }

    /** Finds the roots of the operator kept last; answers how many. */
    int findRoots() {
      manyRoots = 0;
      for (int t = 0; t < PRIME; t++) {
        if (operatorAt(t) == 0) {
          keepRoot(t);
        }
      }
      if (operatorNumber(deep) == 0) {
        keepRoot(NO_ROOT_OF_X);
      }
      return manyRoots;
    }

    private int operatorAt(int t) {
      int together = 0;
      for (int i = deep; i >= 0; i--) {
        together = (together * t + operator[i]) % PRIME;
      }
      return together;
    }

    private void keepRoot(int t) {
      if (manyRoots < roots.length) {
        roots[manyRoots] = t;
        manyRoots++;
      }
    }

    int rootAt(int i) {
      return isWithin(i, manyRoots) ? roots[i] : 0;
    }

    // The form stands behind the powers with its sign turned: taken once, it leaves 0.
    int weightOf(Form form, int i) {
      table.shape(form.degree + 1, manyRoots + 1);
      for (int b = 0; b <= form.degree; b++) {
        for (int j = 0; j < manyRoots; j++) {
          table.set(b, j, powerNumber(roots[j], form.degree, b));
        }
        table.set(b, manyRoots, negative(form.number(placeOf(b, 0))));
      }
      table.reduce();
      return table.solution(manyRoots, i);
    }

    private static int powerNumber(int root, int degree, int b) {
      if (root == NO_ROOT_OF_X) {
        return b == degree ? 1 : 0;
      }
      return raised(root, b);
    }
  }

  /** Rows of numbers; one that is missing has the size -1. */
  private static final class Rows {
    private final int[][] numbers = new int[ROWS][ROW_SIZE];
    private final int[] sizes = {-1, -1, -1};

    boolean isMissing(int row) {
      return sizeOf(row) < 0;
    }

    int sizeOf(int row) {
      return isWithin(row, ROWS) ? sizes[row] : -1;
    }

    void lose(int row) {
      if (isWithin(row, ROWS)) {
        sizes[row] = -1;
      }
    }

    void begin(int row, int size) {
      if (isWithin(row, ROWS) && isWithin(size, ROW_SIZE + 1)) {
        sizes[row] = size;
        for (int i = 0; i < size; i++) {
          numbers[row][i] = 0;
        }
      }
    }

    /** Why a place can't be used, or 0. */
    int refusal(int row, int i) {
      if (!isWithin(row, ROWS)) {
        return BAD;
      }
      if (isMissing(row)) {
        return MISSING;
      }
      return isWithin(i, sizeOf(row)) ? 0 : OUTSIDE;
    }

    int number(int row, int i) {
      return refusal(row, i) == 0 ? numbers[row][i] : 0;
    }

    void set(int row, int i, int v) {
      if (refusal(row, i) == 0) {
        numbers[row][i] = v;
      }
    }

    int manyThere() {
      int many = 0;
      for (int row = 0; row < ROWS; row++) {
        if (!isMissing(row)) {
          many++;
        }
      }
      return many;
    }
  }

  /** The bytes that were fed. */
  private static final class Tape {
    private static final int END = -1;

    private final int[] bytes = new int[TAPE_SIZE];
    private int length = 0;

    void add(int letter) {
      if (length < TAPE_SIZE) {
        bytes[length] = letter;
        length++;
      }
    }

    int letterAt(int i) {
      return i >= 0 && i < length ? bytes[i] : END;
    }
  }

  /** Reads the tape act by act. */
  private static final class Reader {
    private static final int FORM_ACT = 0, LINE_ACT = 1, ADD_ACT = 2, ZERO_ACT = 3, NO_ACT = -1;
    private static final int NO_FAULT = -1;

    private final Tape tape;
    private final int[] operands = new int[4];
    private final Form sum = new Form();
    private int at = 0;
    private int fault = NO_FAULT;
    private int act = NO_ACT;
    private int sumDegree = -1;
    private boolean isUnlike = false;

    Reader(Tape tape) {
      this.tape = tape;
    }

    void begin() {
      at = 0;
      fault = NO_FAULT;
    }

    boolean hasMore() {
      return at < tape.length;
    }

    int operand(int i) {
      return isWithin(i, operands.length) ? operands[i] : 0;
    }

    boolean isSumRefused() {
      return isUnlike || !isDegree(sumDegree);
    }

    /** Goes through the whole tape; answers where no text goes on, or -1. */
    int findFault() {
      begin();
      boolean more = true;
      for (int acts = 0; acts < TAPE_SIZE && more && fault == NO_FAULT; acts++) {
        more = readAct();
      }
      return fault;
    }

    /** Reads an act and the sign that parts it from the next; true if one must follow. */
    boolean readAct() {
      act = readWord();
      switch (act) {
        case FORM_ACT:
          readForm();
          break;
        case LINE_ACT:
          readLine();
          break;
        case ADD_ACT:
          readFigure(0);
          readFigure(1);
          expect(' ');
          readNumber(2);
          break;
        case ZERO_ACT:
          readFigure(0);
          readFigure(1);
          break;
        default:
          failAt(at);
      }
      if (hasMore()) {
        expect(';');
        return true;
      }
      return false;
    }

    // A fault ends the reading: what is asked for behind it must not move on.
    private void failAt(int place) {
      if (fault == NO_FAULT) {
        fault = place;
      }
    }

    private boolean isNext(int letter) {
      return fault == NO_FAULT && at < tape.length && tape.bytes[at] == letter;
    }

    private boolean isNextBetween(int least, int greatest) {
      return fault == NO_FAULT && at < tape.length && tape.bytes[at] >= least && tape.bytes[at] <= greatest;
    }

    private void expect(int letter) {
      if (isNext(letter)) {
        at++;
      } else {
        failAt(at);
      }
    }

    // The word is left unread if it is none that is known: its fault is where it begins.
    private int readWord() {
      int end = at;
      while (end < tape.length && tape.letterAt(end) >= 'a' && tape.letterAt(end) <= 'z') {
        end++;
      }
      int known = wordBetween(end);
      if (known != NO_ACT) {
        at = end;
      }
      return known;
    }

    private int wordBetween(int end) {
      if (isWord("form", end)) {
        return FORM_ACT;
      }
      if (isWord("line", end)) {
        return LINE_ACT;
      }
      if (isWord("add", end)) {
        return ADD_ACT;
      }
      return isWord("zero", end) ? ZERO_ACT : NO_ACT;
    }

    private boolean isWord(String word, int end) {
      if (end - at != word.length()) {
        return false;
      }
      for (int i = 0; i < word.length(); i++) {
        if (tape.letterAt(at + i) != word.charAt(i)) {
          return false;
        }
      }
      return true;
    }

    private void readFigure(int i) {
      expect(' ');
      if (isNextBetween('0', '9')) {
        operands[i] = tape.letterAt(at) - '0';
        at++;
      } else {
        failAt(at);
      }
    }

    private void readNumber(int i) {
      if (isNextBetween('0', '9')) {
        operands[i] = readFigures();
      } else {
        failAt(at);
      }
    }

    private int readFigures() {
      int number = 0;
      for (int i = 0; i < 3 && isNextBetween('0', '9'); i++) {
        number = number * 10 + tape.letterAt(at) - '0';
        at++;
      }
      return number;
    }

    private void expectEquals() {
      expect(' ');
      expect('=');
      expect(' ');
    }

    private void expectComma() {
      expect(' ');
      expect(',');
      expect(' ');
    }

    private void readLine() {
      readFigure(0);
      expectEquals();
      readNumber(1);
      expectComma();
      readNumber(2);
      expectComma();
      readNumber(3);
    }

    private void readForm() {
      readFigure(0);
      expectEquals();
      sumDegree = -1;
      isUnlike = false;
      readTerm(1);
      for (int i = 0; i < TAPE_SIZE && (isNext('+') || isNext('-')); i++) {
        int sign = isNext('+') ? 1 : PRIME - 1;
        at++;
        readTerm(sign);
      }
    }

    private void readTerm(int sign) {
      int begin = at;
      int number = isNextBetween('0', '9') ? readFigures() : 1;
      int a = readPower('x');
      int b = readPower('y');
      int c = readPower('z');
      if (at == begin) {
        failAt(at);
      }
      if (fault == NO_FAULT) {
        takeTerm(number % PRIME * sign % PRIME, a + b + c, placeOf(b, c));
      }
    }

    private int readPower(int letter) {
      if (!isNext(letter)) {
        return 0;
      }
      at++;
      if (!isNextBetween('2', '5')) {
        return 1;
      }
      int power = tape.letterAt(at) - '0';
      at++;
      return power;
    }

    private void takeTerm(int number, int degree, int place) {
      if (sumDegree < 0) {
        sumDegree = degree;
        sum.clear(Math.min(degree, MOST_DEGREE));
      }
      if (degree != sumDegree) {
        isUnlike = true;
      }
      if (!isSumRefused()) {
        sum.plus(place, number);
      }
    }
  }

  /** Writes a form as a text. */
  private static final class Writer {
    private final int[] letters = new int[WRITTEN_SIZE];
    private int length = 0;

    int letter(int i) {
      return isWithin(i, length) ? letters[i] : 0;
    }

    /** Answers how many letters the text has. */
    int write(Form form) {
      length = 0;
      for (int i = 0; i < form.size(); i++) {
        if (form.number(i) != 0) {
          writeTerm(form, i);
        }
      }
      if (length == 0) {
        add('0');
      }
      return length;
    }

    private void writeTerm(Form form, int place) {
      if (length > 0) {
        add('+');
      }
      if (form.number(place) != 1 || form.degree == 0) {
        addNumber(form.number(place));
      }
      addPower('x', xPower(form.degree, place));
      addPower('y', Y_POWERS[place]);
      addPower('z', Z_POWERS[place]);
    }

    private void addPower(int letter, int power) {
      if (power > 0) {
        add(letter);
      }
      if (power > 1) {
        addNumber(power);
      }
    }

    private void addNumber(int v) {
      if (v >= 100) {
        add('0' + v / 100);
      }
      if (v >= 10) {
        add('0' + v / 10 % 10);
      }
      add('0' + v % 10);
    }

    private void add(int letter) {
      if (length < letters.length) {
        letters[length] = letter;
        length++;
      }
    }
  }
}
