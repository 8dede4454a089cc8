/** Of the document's third part racks, rows, steps and the image, and promises 24 to 31, 33, 37 to 39: each sentence that names an edge. */
public final class KeepingTest extends Check {
  public static void main(String[] args) {
    racks();
    store();
    holds();
    fetch();
    rows();
    row();
    lay();
    get();
    film();
    judged();
    judge();
    whatMakesSteps();
    whatMakesNone();
    eightSteps();
    back();
    image();
    restore();
    count();
    finish("keeping");
  }

  private static void racks() {
    begin("RACKS 0 .. 2 have 4 places, which hold nothing (at first), a FORM or a LINE (as it is then)");
    KillingForms x = new KillingForms();
    for (int rack = 0; rack < 3; rack++) {
      for (int i = 0; i < 4; i++) {
        due("holds at first", x.holds(rack, i), NOT);
        due("fetch at first", x.fetch(rack, i, 0), NOT);
      }
      due("place 4", x.holds(rack, 4), OUTSIDE);
      due("place -1", x.holds(rack, -1), OUTSIDE);
    }
    due("rack 3", x.holds(3, 0), BAD);
    x = with("form 0 = x5+z5;form 1 = 3y;line 0 = 1 , 2 , 3;line 5 = 4 , 5 , 6");
    for (int i = 0; i < 4; i++) {
      due("a form in rack 0", x.store(0, i, 0, i), 1);
      due("a line in rack 1", x.store(1, i, 1, i + 2), 1);
      due("a form or a line in rack 2", x.store(2, i, i % 2, i < 2 ? 0 : 1), 1);
    }
    x.zero(0, 2);
    x.line(0, 9, 9, 9);
    x.line(5, 0, 0, 0);
    due("fetch a form", x.fetch(0, 0, 2), 0);
    dueText("as it was then", written(x, 2), "x5+z5:5");
    due("fetch a form", x.fetch(2, 0, 3), 0);
    dueText("as it was then", written(x, 3), "x5+z5:5");
    due("fetch a line", x.fetch(1, 3, 1), 1);
    dueText("as it was then", lineText(x, 1), "4,5,6");
    due("fetch a line", x.fetch(2, 1, 2), 1);
    dueText("as it was then", lineText(x, 2), "1,2,3");
    x.put(2, 5, 0, 7);
    x.fetch(0, 0, 3);
    dueText("what is fetched and put to stays as it was in the rack", written(x, 3), "x5+z5:5");
    begin("RACK 0 takes FORMS alone, RACK 1 LINES alone, RACK 2 both: -16, if it does not take it");
    x = new KillingForms();
    for (int i = 0; i < 4; i++) {
      due("a line in rack 0", x.store(0, i, 1, 5), NOT_TAKEN);
      due("a form in rack 1", x.store(1, i, 0, 3), NOT_TAKEN);
      due("nothing in rack 0", x.holds(0, i), NOT);
      due("nothing in rack 1", x.holds(1, i), NOT);
    }
    due("nothing held", x.count(2), 0);
    x.store(0, 1, 0, 0);
    due("a line over a form in rack 0", x.store(0, 1, 1, 0), NOT_TAKEN);
    due("the form is held still", x.holds(0, 1), 0);
    x.store(2, 1, 0, 0);
    due("a line over a form in rack 2", x.store(2, 1, 1, 0), 1);
    due("the line is held", x.holds(2, 1), 1);
    due("a form over a line in rack 2", x.store(2, 1, 0, 0), 1);
    due("the form is held", x.holds(2, 1), 0);
  }

  private static void store() {
    begin("store: BAD: rack, kind, k; -13: i; -16");
    KillingForms x = new KillingForms();
    due("last register", x.store(0, 3, 0, 3), 1);
    due("last line", x.store(1, 3, 1, 5), 1);
    due("register 4", x.store(2, 0, 0, 4), BAD);
    due("register 5", x.store(2, 0, 0, 5), BAD);
    due("line 6", x.store(2, 0, 1, 6), BAD);
    due("line 4", x.store(2, 0, 1, 4), 1);
    for (int wrong : new int[] {-1, LEAST, GREATEST}) {
      due("register", x.store(2, 1, 0, wrong), BAD);
      due("line", x.store(2, 1, 1, wrong), BAD);
    }
    for (int wrong : new int[] {-1, 2, LEAST, GREATEST}) {
      due("kind", x.store(2, 1, wrong, 0), BAD);
    }
    for (int wrong : new int[] {-1, 3, LEAST, GREATEST}) {
      due("rack", x.store(wrong, 1, 0, 0), BAD);
    }
    for (int wrong : new int[] {-1, 4, LEAST, GREATEST}) {
      due("place", x.store(0, wrong, 0, 0), OUTSIDE);
      due("place of what is not taken", x.store(0, wrong, 1, 0), OUTSIDE);
      due("place of what is not taken", x.store(1, wrong, 0, 0), OUTSIDE);
      due("place, no such rack", x.store(3, wrong, 0, 0), BAD);
      due("place, no such kind", x.store(0, wrong, 2, 0), BAD);
      due("place, no such register", x.store(0, wrong, 0, 4), BAD);
      due("place, no such line", x.store(0, wrong, 1, 6), BAD);
    }
    due("not taken, no such line", x.store(0, 0, 1, 6), BAD);
    due("not taken, no such register", x.store(1, 0, 0, 4), BAD);
    due("what is held", x.count(2), 3);
  }

  private static void holds() {
    begin("holds: 0 a FORM, 1 a LINE; NOT: nothing. BAD: rack; -13");
    KillingForms x = new KillingForms();
    x.store(2, 0, 0, 0);
    x.store(2, 3, 1, 0);
    due("a form", x.holds(2, 0), 0);
    due("a line", x.holds(2, 3), 1);
    due("nothing", x.holds(2, 1), NOT);
    for (int wrong : new int[] {-1, 4, LEAST, GREATEST}) {
      due("place", x.holds(2, wrong), OUTSIDE);
    }
    for (int wrong : new int[] {-1, 3, LEAST, GREATEST}) {
      due("rack", x.holds(wrong, 0), BAD);
      due("rack, place", x.holds(wrong, 4), BAD);
    }
  }

  private static void fetch() {
    begin("fetch: BAD: rack; -13; NOT: nothing; BAD: no such REGISTER, LINE");
    KillingForms x = with("form 0 = xy");
    x.store(2, 0, 0, 0);
    x.store(2, 3, 1, 0);
    due("last register", x.fetch(2, 0, 3), 0);
    due("last line", x.fetch(2, 3, 5), 1);
    due("register 4", x.fetch(2, 0, 4), BAD);
    due("register 5", x.fetch(2, 0, 5), BAD);
    due("line 4", x.fetch(2, 3, 4), 1);
    due("line 6", x.fetch(2, 3, 6), BAD);
    for (int wrong : new int[] {-1, LEAST, GREATEST}) {
      due("register", x.fetch(2, 0, wrong), BAD);
      due("line", x.fetch(2, 3, wrong), BAD);
      due("nothing, no such one", x.fetch(2, 1, wrong), NOT);
      due("place, no such one", x.fetch(2, 4, wrong), OUTSIDE);
    }
    for (int wrong : new int[] {-1, 4, LEAST, GREATEST}) {
      due("place", x.fetch(2, wrong, 0), OUTSIDE);
    }
    for (int wrong : new int[] {-1, 3, LEAST, GREATEST}) {
      due("rack", x.fetch(wrong, 0, 0), BAD);
      due("rack, place", x.fetch(wrong, 4, 0), BAD);
    }
    due("steps", x.count(0), 2);
  }

  private static void rows() {
    begin("ROWS 0 .. 2 are missing (at first), or hold 0 .. 40 ints: -11 it is missing, -13 a place outside, -14 a size below 0");
    KillingForms x = new KillingForms();
    for (int row = 0; row < 3; row++) {
      due("lay", x.lay(row, 0, 1), MISSING);
      due("get", x.get(row, 0), MISSING);
      due("judge", x.judge(row, 0), MISSING);
    }
    due("row 3", x.get(3, 0), BAD);
    for (int n : new int[] {0, 1, 2, 39, 40}) {
      due("row(1, " + n + ")", x.row(1, n), 1);
      due("behind the last", x.get(1, n), OUTSIDE);
      due("behind the last", x.lay(1, n, 5), OUTSIDE);
      due("ahead of the first", x.get(1, -1), OUTSIDE);
      due("ahead of the first", x.lay(1, -1, 5), OUTSIDE);
      due("the last", x.get(1, n - 1), n == 0 ? OUTSIDE : 0);
      due("the last", x.lay(1, n - 1, GREATEST), n == 0 ? OUTSIDE : 1);
      due("the last", x.get(1, n - 1), n == 0 ? OUTSIDE : GREATEST);
    }
    due("another row is missing still", x.get(0, 0), MISSING);
    due("another row is missing still", x.get(2, 0), MISSING);
  }

  private static void row() {
    begin("row: all 0, or is missing (n -1): 1. BAD: row, n above 40; -14: n below -1");
    KillingForms x = with("form 0 = 3x5+4y5+5z5");
    x.film(0, 0);
    due("row(0, 21)", x.row(0, 21), 1);
    dueText("all 0", rowText(x, 0, 22), "0 0 0 0 0 0 0 0 0 0 0 0 0 0 0 0 0 0 0 0 0 -13");
    x.lay(0, 4, 9);
    due("row(0, 3)", x.row(0, 3), 1);
    due("row(0, 5)", x.row(0, 5), 1);
    dueText("all 0, also what was behind a smaller size", rowText(x, 0, 5), "0 0 0 0 0");
    x.lay(0, 4, 9);
    due("n 41", x.row(0, 41), BAD);
    due("n great", x.row(0, GREATEST), BAD);
    for (int n : new int[] {-2, -3, -14, LEAST}) {
      due("n below -1", x.row(0, n), SMALL);
      due("n below -1, no such row", x.row(3, n), BAD);
    }
    dueText("nothing changes", rowText(x, 0, 6), "0 0 0 0 9 -13");
    due("n -1", x.row(0, -1), 1);
    due("missing", x.get(0, 0), MISSING);
    due("n -1 again", x.row(0, -1), 1);
    due("n 0", x.row(0, 0), 1);
    due("not missing", x.get(0, 0), OUTSIDE);
    for (int wrong : new int[] {-1, 3, LEAST, GREATEST}) {
      due("row", x.row(wrong, 0), BAD);
      due("row, n -1", x.row(wrong, -1), BAD);
    }
  }

  private static void lay() {
    begin("lay: Place i of a ROW becomes v: 1. BAD; -11; -13");
    KillingForms x = new KillingForms();
    for (int i : new int[] {0, -1, 40, LEAST, GREATEST}) {
      due("missing ahead of outside", x.lay(2, i, 1), MISSING);
      due("no such row", x.lay(3, i, 1), BAD);
      due("no such row", x.lay(-1, i, 1), BAD);
    }
    x.row(2, 5);
    int[] numbers = {LEAST, -13, 0, 101, GREATEST};
    for (int i = 0; i < 5; i++) {
      due("lay", x.lay(2, i, numbers[i]), 1);
    }
    for (int i = 0; i < 5; i++) {
      due("any int", x.get(2, i), numbers[i]);
    }
    for (int i : new int[] {5, -1, LEAST, GREATEST}) {
      due("outside", x.lay(2, i, 1), OUTSIDE);
    }
    due("no such row", x.lay(LEAST, 0, 1), BAD);
    due("no such row", x.lay(GREATEST, 0, 1), BAD);
  }

  private static void get() {
    begin("get: BAD: no such ROW; -11; -13 (a place may hold these, too)");
    KillingForms x = new KillingForms();
    for (int i : new int[] {0, -1, 40, LEAST, GREATEST}) {
      due("missing ahead of outside", x.get(2, i), MISSING);
      due("no such row", x.get(3, i), BAD);
      due("no such row", x.get(-1, i), BAD);
    }
    x.row(0, 3);
    x.lay(0, 0, BAD);
    x.lay(0, 1, MISSING);
    x.lay(0, 2, OUTSIDE);
    dueText("what it holds", rowText(x, 0, 3), "-1 -11 -13");
    for (int i : new int[] {3, -1, LEAST, GREATEST}) {
      due("outside", x.get(0, i), OUTSIDE);
    }
    due("no such row", x.get(LEAST, 0), BAD);
    due("no such row", x.get(GREATEST, 0), BAD);
  }

  private static void film() {
    begin("film: A ROW becomes the numbers of a REGISTER, by MONOMIALS: how many. BAD.");
    KillingForms x = with("form 0 = 5x2+6xy+7xz+8y2+9yz+10z2;form 1 = 100x5+99z5");
    x.row(0, 40);
    x.lay(0, 6, 1);
    due("a greater row", x.film(0, 0), 6);
    dueText("becomes less", rowText(x, 0, 7), "5 6 7 8 9 10 -13");
    due("a less row", x.film(0, 1), 21);
    dueText("becomes greater", rowText(x, 0, 22), "100 0 0 0 0 0 0 0 0 0 0 0 0 0 0 0 0 0 0 0 99 -13");
    x.zero(1, 1);
    due("the row stays", x.get(0, 0), 100);
    begin("film(): a ROW that is missing is there then");
    due("missing", x.get(1, 0), MISSING);
    due("film", x.film(1, 3), 1);
    due("is there", x.get(1, 0), 0);
    due("of size 1", x.get(1, 1), OUTSIDE);
    due("rows", x.count(4), 2);
    for (int wrong : new int[] {-1, 3, LEAST, GREATEST}) {
      due("row", x.film(wrong, 0), BAD);
    }
    for (int wrong : new int[] {-1, 4, LEAST, GREATEST}) {
      due("register", x.film(2, wrong), BAD);
    }
    due("is missing still", x.get(2, 0), MISSING);
    due("no step", x.count(0), 3);
  }

  private static void judged() {
    begin("JUDGED: the first place that is otherwise (from 6 on, too); -2: none; 100 and its size, if it has fewer than 6 and is well so far");
    for (int size = 0; size <= 40; size += size < 8 ? 1 : 8) {
      for (int wrong = -1; wrong < size; wrong++) {
        KillingForms x = judgedRow(size);
        if (wrong >= 0) {
          x.lay(0, wrong, 77);
        }
        int first = wrong >= 0 && wrong < 6 ? wrong : size > 6 ? 6 : -1;
        due("size " + size + ", otherwise at " + wrong, x.judge(0, 1), first >= 0 ? first : size < 6 ? 100 + size : NOT);
      }
    }
    KillingForms x = judgedRow(6);
    x.lay(0, 5, 9);
    x.lay(0, 2, 9);
    due("two are otherwise", x.judge(0, 1), 2);
    x.row(0, 6);
    due("VALUES of a form that is 0 everywhere", x.judge(0, 0), NOT);
    x.line(4, 1, 1, 1);
    due("VALUES of a form that is 0 everywhere", x.judge(0, 0), NOT);
    x.put(0, 0, 0, 1);
    due("VALUES of a form of degree 0 at lines 0, 0, 0", x.judge(0, 0), 0);
    x.film(0, 0);
    due("1 of 1", x.judge(0, 0), 101);
    x.lay(0, 0, 102);
    due("102 is not 1", x.judge(0, 0), 0);
    x.lay(0, 0, -100);
    due("-100 is not 1", x.judge(0, 0), 0);
  }

  private static KillingForms judgedRow(int size) {
    KillingForms x = new KillingForms();
    x.zero(1, 1);
    x.put(1, 1, 0, 50);
    x.row(0, size);
    for (int k = 0; k < 6; k++) {
      x.line(k, k + 1, 9, 9);
      x.lay(0, k, 50 * (k + 1) % 101);
    }
    return x;
  }

  private static void judge() {
    begin("judge: BAD; -11");
    KillingForms x = new KillingForms();
    x.row(0, 0);
    due("of size 0", x.judge(0, 3), 100);
    due("missing", x.judge(1, 0), MISSING);
    for (int wrong : new int[] {-1, 4, LEAST, GREATEST}) {
      due("register", x.judge(0, wrong), BAD);
      due("register, missing", x.judge(1, wrong), BAD);
    }
    for (int wrong : new int[] {-1, 3, LEAST, GREATEST}) {
      due("row", x.judge(wrong, 0), BAD);
    }
    x.row(0, -1);
    due("missing again", x.judge(0, 0), MISSING);
  }

  private static KillingForms stepped() {
    KillingForms x = with("form 0 = 2x+y;form 1 = 3x2;line 0 = 1 , 2 , 3");
    x.store(2, 0, 0, 1);
    x.store(2, 1, 1, 0);
    return x;
  }

  /** A call that makes register 3 or line 5 otherwise. */
  private static int change(KillingForms x, int which) {
    switch (which) {
      case 0:
        return x.put(3, 0, 0, 5);
      case 1:
        return x.zero(3, 4);
      case 2:
        return x.sum(3, 0, 0, 1);
      case 3:
        return x.contract(3, 0, 1);
      case 4:
        return x.multiply(3, 0, 1);
      case 5:
        return x.power(3, 0, 2);
      case 6:
        return x.adds(3, 0, 7);
      case 7:
        return x.line(5, 3, 2, 1);
      case 8:
        return readText(x, "form 3 = 4xyz");
      case 9:
        return x.fetch(2, 0, 3);
      default:
        return x.fetch(2, 1, 5);
    }
  }

  private static void whatMakesSteps() {
    begin("STEPS: what put(), zero(), sum(), contract(), multiply(), power(), adds(), line(), read(), fetch() made otherwise");
    String[] made = {"5:0", "0:4", "4x+2y:1", "6x:1", "6x3+3x2y:3", "x2+2xy+3xz+4y2+6yz+9z2:2", "7:0", "0:0", "4xyz:3", "3x2:2", "0:0"};
    String[] lines = {"0,0,0", "0,0,0", "0,0,0", "0,0,0", "0,0,0", "0,0,0", "0,0,0", "3,2,1", "0,0,0", "0,0,0", "1,2,3"};
    for (int which = 0; which < made.length; which++) {
      KillingForms x = stepped();
      change(x, which);
      dueText("made by " + which, written(x, 3), made[which]);
      dueText("made by " + which, lineText(x, 5), lines[which]);
      due("a step by " + which, x.count(0), 4);
      due("back of " + which, x.back(), 3);
      dueText("as it was before " + which, written(x, 3), "0:0");
      dueText("as it was before " + which, lineText(x, 5), "0,0,0");
      dueText("what was taken is as it was", written(x, 0), "2x+y:1");
      dueText("what was taken is as it was", written(x, 1), "3x2:2");
      due("back of the line", x.back(), 2);
      dueText("the line", lineText(x, 0), "0,0,0");
    }
    begin("A call by which nothing is otherwise is no STEP (a FORM of another DEGREE is otherwise)");
    for (int which = 0; which < made.length; which++) {
      KillingForms x = stepped();
      change(x, which);
      int steps = which == 6 ? 5 : 4;
      change(x, which);
      due("the same once more by " + which, x.count(0), steps);
    }
    KillingForms x = new KillingForms();
    due("adds of 0 times", x.adds(0, 0, 0), 0);
    due("no step", x.count(0), 0);
    x.zero(0, 3);
    due("0 everywhere of another degree", x.count(0), 1);
    x.multiply(1, 0, 0);
    x.contract(2, 0, 0);
    due("what is refused, and 0 of degree 0", x.count(0), 1);
    x.power(3, 0, 2);
    due("the power of 0, 0, 0 to the 2", x.count(0), 2);
    x.zero(3, 2);
    x.power(3, 5, 2);
    x.sum(3, 3, 3, 100);
    x.adds(3, 5, 100);
    due("0 of degree 2 as before", x.count(0), 2);
    due("back", x.back(), 1);
    due("back", x.back(), 0);
    due("none", x.back(), STATE);
  }

  private static void whatMakesNone() {
    begin("STEPS are of REGISTERS and LINES alone: racks, rows, the tape, the image make none");
    KillingForms x = stepped();
    x.store(0, 0, 0, 0);
    x.row(0, 9);
    x.lay(0, 3, 3);
    x.film(1, 1);
    x.feed('a');
    x.wipe();
    x.image();
    due("steps", x.count(0), 3);
    due("back", x.back(), 2);
    dueText("of the line", lineText(x, 0), "0,0,0");
    due("the rack holds", x.holds(0, 0), 0);
    due("the row holds", x.get(0, 3), 3);
    begin("what is refused is no STEP");
    x = stepped();
    x.zero(0, 6);
    x.put(0, 2, 0, 1);
    x.sum(0, 0, 1, 1);
    x.contract(0, 1, 0);
    x.zero(2, 5);
    x.multiply(0, 1, 2);
    x.power(0, 6, 1);
    x.adds(0, 0, 101);
    x.line(0, 101, 0, 0);
    x.fetch(2, 2, 0);
    readText(x, "zero 0 5;zero");
    readText(x, "zero 0 6");
    due("steps", x.count(0), 4);
    dueText("register 0", written(x, 0), "2x+y:1");
  }

  private static void eightSteps() {
    begin("the latest first, 8 at most (then the eldest is none any more)");
    for (int many = 1; many <= 20; many++) {
      KillingForms x = new KillingForms();
      for (int i = 1; i <= many; i++) {
        x.put(0, 0, 0, i);
        due("steps", x.count(0), Math.min(i, 8));
      }
      for (int i = 1; i <= Math.min(many, 8); i++) {
        due("back", x.back(), Math.min(many, 8) - i);
        due("as it was", x.of(0, 0, 0), many - i);
      }
      due("none is left", x.back(), STATE);
      due("the eldest stands", x.of(0, 0, 0), Math.max(many - 8, 0));
    }
    begin("STEPS behind some that were taken BACK");
    KillingForms x = new KillingForms();
    for (int i = 1; i <= 11; i++) {
      x.put(0, 0, 0, i);
    }
    x.back();
    x.back();
    x.back();
    due("five left", x.count(0), 5);
    for (int i = 21; i <= 24; i++) {
      x.put(0, 0, 0, i);
    }
    due("eight again", x.count(0), 8);
    for (int want : new int[] {23, 22, 21, 8, 7, 6, 5, 4}) {
      x.back();
      due("as it was", x.of(0, 0, 0), want);
    }
    due("none", x.back(), STATE);
    for (int many = 1; many <= 16; many++) {
      for (int back = 1; back <= Math.min(many, 8); back++) {
        dueStepsBehind(many, back);
      }
    }
    begin("by read() each ACT that makes something otherwise is one");
    x = new KillingForms();
    due("acts", readText(x, "zero 0 1;zero 0 1;line 1 = 0 , 0 , 0;line 1 = 1 , 0 , 0;add 0 1 5;add 0 1 0"), 6);
    due("steps", x.count(0), 3);
    due("back", x.back(), 2);
    dueText("of add", written(x, 0), "0:1");
    due("back", x.back(), 1);
    dueText("of line", lineText(x, 1), "0,0,0");
    due("back", x.back(), 0);
    dueText("of zero", written(x, 0), "0:0");
    x = new KillingForms();
    x.line(0, 1, 1, 1);
    due("acts", readText(x, "zero 0 1;zero 0 2;zero 0 3;zero 0 4;zero 0 5;zero 1 1;zero 1 2;zero 1 3;zero 1 4"), 9);
    for (int left = 7; left >= 0; left--) {
      due("back", x.back(), left);
    }
    due("none", x.back(), STATE);
    due("the first act stands", x.told(0, 0), 1);
    dueText("the line stands", lineText(x, 0), "1,1,1");
  }

  private static void dueStepsBehind(int many, int back) {
    KillingForms x = new KillingForms();
    for (int i = 1; i <= many; i++) {
      x.put(0, 0, 0, i);
    }
    for (int i = 0; i < back; i++) {
      x.back();
    }
    due("as it was " + back + " of " + many + " ago", x.of(0, 0, 0), many - back);
    x.line(3, 1, 2, 3);
    int left = Math.min(many, 8) - back;
    due("steps", x.count(0), left + 1);
    due("back of the line", x.back(), left);
    dueText("line 3", lineText(x, 3), "0,0,0");
    for (int i = 1; i <= left; i++) {
      due("back behind it", x.back(), left - i);
      due("as it was", x.of(0, 0, 0), many - back - i);
    }
    due("none", x.back(), STATE);
  }

  private static void back() {
    begin("back: how many can still be. STATE: there is none");
    KillingForms x = new KillingForms();
    due("a new object", x.back(), STATE);
    due("a new object", x.back(), STATE);
    x.line(3, 1, 0, 0);
    x.line(3, 2, 0, 0);
    due("one left", x.back(), 1);
    dueText("line 3", lineText(x, 3), "1,0,0");
    due("none left", x.back(), 0);
    due("none", x.back(), STATE);
    dueText("line 3", lineText(x, 3), "0,0,0");
    due("what is taken back is no step", x.count(0), 0);
  }

  private static void image() {
    begin("image: THE IMAGE is taken: all DEGREES together");
    KillingForms x = new KillingForms();
    due("at first", x.image(), 0);
    for (int r = 0; r < 4; r++) {
      x.zero(r, 5);
      due("registers to " + r, x.image(), 5 * (r + 1));
    }
    x.zero(1, 2);
    due("the sum", x.image(), 17);
    due("again", x.image(), 17);
    due("no step", x.count(0), 5);
    begin("THE IMAGE: REGISTERS, LINES, RACKS");
    x = stepped();
    x.store(0, 3, 0, 0);
    due("image", x.image(), 3);
    x.zero(0, 0);
    x.zero(1, 0);
    x.zero(3, 5);
    x.line(0, 0, 0, 0);
    x.line(5, 9, 9, 9);
    x.store(2, 0, 1, 5);
    x.store(2, 1, 0, 3);
    x.store(2, 2, 0, 3);
    x.store(0, 3, 0, 3);
    due("restore", x.restore(), 3);
    dueText("register 0", written(x, 0), "2x+y:1");
    dueText("register 1", written(x, 1), "3x2:2");
    dueText("register 3", written(x, 3), "0:0");
    dueText("line 0", lineText(x, 0), "1,2,3");
    dueText("line 5", lineText(x, 5), "0,0,0");
    due("holds(2, 0)", x.holds(2, 0), 0);
    due("holds(2, 1)", x.holds(2, 1), 1);
    due("holds(2, 2)", x.holds(2, 2), NOT);
    due("held", x.count(2), 3);
    x.fetch(2, 0, 3);
    dueText("held form", written(x, 3), "3x2:2");
    x.fetch(0, 3, 3);
    dueText("held form", written(x, 3), "2x+y:1");
    x.fetch(2, 1, 5);
    dueText("held line", lineText(x, 5), "1,2,3");
  }

  private static void restore() {
    begin("restore: each REGISTER, each LINE, each place of RACKS");
    for (int place = 0; place < 12; place++) {
      KillingForms x = with("form 0 = 3x;line 0 = 4 , 5 , 6;zero 1 2");
      x.store(place / 4, place % 4, place / 4 == 1 ? 1 : 0, 0);
      x.image();
      x.store(place / 4, place % 4, place / 4 == 0 ? 0 : 1, 1);
      x.restore();
      due("kind at " + place, x.fetch(place / 4, place % 4, 3), place / 4 == 1 ? 1 : 0);
      dueText("form at " + place, written(x, 3), place / 4 == 1 ? "0:0" : "3x:1");
      dueText("line at " + place, lineText(x, 3), place / 4 == 1 ? "4,5,6" : "0,0,0");
      x = new KillingForms();
      x.image();
      x.store(place / 4, place % 4, place / 4 == 1 ? 1 : 0, 0);
      x.restore();
      due("nothing at " + place, x.holds(place / 4, place % 4), NOT);
    }
    for (int k = 0; k < 6; k++) {
      KillingForms x = new KillingForms();
      x.line(k, 7, 8, 9);
      x.put(k % 4, 0, 0, 5);
      x.image();
      x.line(k, 0, 8, 9);
      x.zero(k % 4, 1);
      x.restore();
      dueText("line " + k, lineText(x, k), "7,8,9");
      dueText("register " + k % 4, written(x, k % 4), "5:0");
    }
    begin("restore: All is as THE IMAGE: all DEGREES together. STATE: there is none");
    KillingForms x = stepped();
    due("none", x.restore(), STATE);
    due("nothing changes", x.count(0), 3);
    dueText("nothing changes", written(x, 0), "2x+y:1");
    x = new KillingForms();
    x.image();
    x.zero(0, 3);
    due("of a new object", x.restore(), 0);
    due("degree", x.told(0, 0), 0);
    x.zero(0, 4);
    due("a second time", x.restore(), 0);
    x.zero(0, 4);
    x.image();
    x.zero(0, 5);
    due("of the latest image", x.restore(), 4);
    due("degree", x.told(0, 0), 4);
    begin("restore() leaves no STEPS, also if nothing is otherwise by it");
    x = stepped();
    x.image();
    due("restore", x.restore(), 3);
    due("no steps", x.count(0), 0);
    due("none", x.back(), STATE);
    due("a step behind it", x.zero(0, 5), 1);
    due("back to the image", x.back(), 0);
    dueText("back to the image", written(x, 0), "2x+y:1");
    due("none", x.back(), STATE);
    begin("restore() leaves ROWS, THE TAPE");
    x = new KillingForms();
    x.row(1, 2);
    x.image();
    feedText(x, "zero 0");
    x.lay(1, 1, 6);
    x.row(0, 4);
    x.restore();
    feedText(x, " 3");
    dueText("row 1", rowText(x, 1, 3), "0 6 -13");
    dueText("row 0", rowText(x, 0, 5), "0 0 0 0 -13");
    due("read", x.read(), 1);
    due("degree", x.told(0, 0), 3);
  }

  private static void count() {
    begin("count: 0 STEPS, 1 bytes of THE TAPE, 2 places of RACKS that hold something, 3 LINES that are not 0, 0, 0, 4 ROWS that are not missing");
    KillingForms x = new KillingForms();
    for (int what = 0; what < 5; what++) {
      due("count(" + what + ") at first", x.count(what), 0);
    }
    for (int i = 0; i < 6; i++) {
      x.line(i, i % 3 == 0 ? 1 : 0, i % 3 == 1 ? 1 : 0, i % 3 == 2 ? 1 : 0);
      due("lines", x.count(3), i + 1);
      due("steps", x.count(0), i + 1);
    }
    for (int i = 0; i < 12; i++) {
      x.store(i / 4, i % 4, i / 4 == 1 ? 1 : 0, 0);
      due("places", x.count(2), i + 1);
    }
    for (int row = 0; row < 3; row++) {
      x.row(row, 0);
      due("rows", x.count(4), row + 1);
    }
    for (int i = 1; i <= 80; i++) {
      x.feed(' ');
      due("bytes", x.count(1), i);
    }
    x.line(0, 0, 0, 0);
    due("lines", x.count(3), 5);
    x.line(1, 0, 0, 0);
    x.line(2, 0, 0, 0);
    due("steps", x.count(0), 8);
    x.store(0, 0, 0, 1);
    due("places", x.count(2), 12);
    x.row(1, -1);
    due("rows", x.count(4), 2);
    x.wipe();
    due("bytes", x.count(1), 0);
    for (int wrong : new int[] {-1, 5, LEAST, GREATEST}) {
      due("what", x.count(wrong), BAD);
    }
  }
}
