/** The document's "so that nothing is read two ways", and which of several refusals is told: a test for each sentence. */
public final class OneWayTest extends Check {
  public static void main(String[] args) {
    and();
    sums();
    steps();
    degreeZero();
    zeroEverywhere();
    zeroToTheZero();
    noLines();
    killers();
    deepest();
    film();
    restore();
    texts();
    leads();
    tape();
    firstRefusal();
    nothingChanges();
    finish("one way");
  }

  private static void and() {
    begin("\"And\" between numbers: their sum");
    KillingForms x = with("form 0 = x2y3;form 1 = 5;form 2 = x2y2z");
    due("d and 1 is 1 by degree 0", x.deep(1), 1);
    due("ten times a, and b", x.lead(0, 0, 0), 23);
    due("ten times a, and b", x.lead(2, 0, 0), 22);
    x.row(0, 3);
    due("100 and its size", x.judge(0, 3), 103);
    due("s and v times t", x.sum(3, 1, 1, 4), 0);
    due("s and v times t", x.of(3, 0, 0), 25);
    due("all DEGREES", x.image(), 10);
  }

  private static void sums() {
    begin("SUM 0 in a TEXT: DEGREE 0, its number 0");
    KillingForms x = with("form 0 = x3", "form 0 = 0");
    dueText("register 0", written(x, 0), "0:0");
    due("a step", x.count(0), 2);
    begin("add R K N in a TEXT is as adds(); zero R D as zero()");
    x = with("form 0 = x2;line 1 = 2 , 3 , 0", "add 0 1 100;zero 1 3");
    dueText("register 0", written(x, 0), "98x2+95xy+92y2:2");
    dueText("register 1", written(x, 1), "0:3");
  }

  private static void steps() {
    begin("A call by which nothing is otherwise is no STEP (a FORM of another DEGREE is otherwise)");
    KillingForms x = new KillingForms();
    x.zero(0, 0);
    x.put(0, 0, 0, 0);
    x.sum(0, 1, 2, 100);
    x.contract(0, 1, 2);
    x.multiply(0, 1, 2);
    x.power(1, 0, 1);
    due("one is otherwise, of degree 1", x.count(0), 1);
    x.power(1, 0, 1);
    x.adds(0, 0, 0);
    x.line(0, 0, 0, 0);
    readText(x, "form 0 = 0;line 0 = 0 , 0 , 0;add 0 0 0;zero 0 0");
    x.store(2, 0, 0, 0);
    x.store(2, 1, 1, 0);
    x.fetch(2, 0, 2);
    x.fetch(2, 1, 2);
    due("none of these", x.count(0), 1);
    x.fetch(2, 0, 1);
    due("of another degree", x.count(0), 2);
    x.contract(0, 0, 0);
    x.zero(0, 2);
    x.contract(0, 0, 0);
    due("of another degree", x.count(0), 4);
    begin("ACTS that are done ahead of a refused one are STEPS");
    x = new KillingForms();
    due("read", readText(x, "zero 0 1;zero 1 2;zero 0 9"), -202);
    due("steps", x.count(0), 2);
  }

  private static void degreeZero() {
    begin("One of which DEGREE 0 is and its number not 0 is in TWO LETTERS; DEEP of it is 1");
    for (int number : new int[] {1, 2, 50, 100}) {
      KillingForms x = new KillingForms();
      x.put(0, 0, 0, number);
      due("told 3", x.told(0, 3), 1);
      due("deep", x.deep(0), 1);
      dueText("deepest", deepestText(x, 0), "1 0");
      due("above it", x.deepest(0, 2), BAD);
      due("roots", x.root(0, -1), 1);
      due("root", x.root(0, 0), 101);
      due("weight", x.weight(0, 0), STATE);
    }
  }

  private static void zeroEverywhere() {
    begin("RANK of a FORM that is 0 everywhere: 0");
    for (int d = 0; d <= 5; d++) {
      KillingForms x = new KillingForms();
      x.zero(0, d);
      for (int e = 0; e <= d; e++) {
        due("rank by " + e + " of degree " + d, x.rank(0, e), 0);
        due("killers by " + e + " of degree " + d, x.killer(0, e, -1, 0), size(e));
      }
    }
    begin("told() 3 of a FORM that is 0 everywhere: 1");
    for (int d = 0; d <= 5; d++) {
      KillingForms x = new KillingForms();
      x.zero(0, d);
      due("told 3 of degree " + d, x.told(0, 3), 1);
      due("deep of degree " + d, x.deep(0), STATE);
    }
  }

  private static void zeroToTheZero() {
    begin("VALUE: 0 to the 0 is 1 there, too (by every d)");
    for (int d = 0; d <= 5; d++) {
      KillingForms x = with("line 1 = 1 , 0 , 0;line 2 = 0 , 1 , 0;line 3 = 0 , 0 , 1");
      x.zero(0, d);
      x.put(0, d, 0, 7);
      due("at 1, 0, 0 by " + d, x.value(0, 1), 7);
      due("at 0, 0, 0 by " + d, x.value(0, 0), d == 0 ? 7 : 0);
      x.put(0, 0, d, 8);
      due("at 0, 1, 0 by " + d, x.value(0, 2), 8);
      x.put(0, 0, 0, 9);
      due("at 0, 0, 1 by " + d, x.value(0, 3), 9);
    }
    begin("TANGENT: 0 to the 0 is 1 there, too (by every d)");
    for (int d = 1; d <= 5; d++) {
      KillingForms x = with("line 1 = 1 , 0 , 0;line 2 = 0 , 1 , 0;line 3 = 0 , 0 , 1;line 4 = 0 , 1 , 1");
      for (int k = 1; k <= 4; k++) {
        due("span of line " + k + " by " + d, x.tangent(d, 1 << k, 0), 3);
      }
    }
    begin("TANGENT of LINES that are 0, 0, 0: rows of 0 (by d 1 the rows are 1 at x, y, z)");
    for (int d = 1; d <= 5; d++) {
      for (int k = 0; k < 6; k++) {
        due("span of line " + k + " by " + d, new KillingForms().tangent(d, 1 << k, 0), d == 1 ? 3 : 0);
        due("expected of line " + k + " by " + d, new KillingForms().tangent(d, 1 << k, 1), 3);
      }
    }
  }

  private static void noLines() {
    begin("SPAN, EXPECTED of no LINES (bits 0): 0");
    KillingForms x = with("line 0 = 1 , 2 , 3");
    for (int d = 1; d <= 5; d++) {
      due("span by " + d, x.tangent(d, 0, 0), 0);
      due("expected by " + d, x.tangent(d, 0, 1), 0);
    }
  }

  private static void killers() {
    begin("killer() with k -1: any i; with others an i that is no MONOMIAL's is BAD ahead of NOT");
    KillingForms x = with("form 0 = x2+yz");
    for (int e = 0; e <= 2; e++) {
      int many = x.killer(0, e, -1, 0);
      for (int i : new int[] {LEAST, -2, -1, size(e), GREATEST}) {
        due("k -1 by " + e, x.killer(0, e, -1, i), many);
        due("k 0 by " + e, x.killer(0, e, 0, i), BAD);
        due("k behind by " + e, x.killer(0, e, many, i), BAD);
        due("k great by " + e, x.killer(0, e, GREATEST, i), BAD);
      }
      due("k behind by " + e, x.killer(0, e, many, 0), NOT);
      due("k behind by " + e, x.killer(0, e, many, size(e) - 1), NOT);
    }
  }

  private static void deepest() {
    begin("deepest() without DEEP: STATE by any i from 0 on");
    KillingForms x = with("form 0 = z;form 1 = 0x4;form 2 = xyz");
    for (int i : new int[] {0, 1, 2, 5, 6, 7, 100, GREATEST}) {
      for (int r = 0; r < 4; r++) {
        due("deepest(" + r + ", " + i + ")", x.deepest(r, i), STATE);
      }
    }
    due("below 0", x.deepest(0, -1), BAD);
  }

  private static void film() {
    begin("film(): a ROW that is missing is there then");
    for (int row = 0; row < 3; row++) {
      KillingForms x = with("form 2 = 3x+5z");
      due("missing", x.get(row, 0), MISSING);
      due("film", x.film(row, 2), 3);
      dueText("row", rowText(x, row, 4), "3 0 5 -13");
      due("rows", x.count(4), 1);
    }
  }

  private static void restore() {
    begin("restore() leaves ROWS, THE TAPE");
    KillingForms x = new KillingForms();
    x.image();
    x.film(1, 0);
    x.lay(1, 0, 9);
    x.feed('a');
    x.restore();
    due("row 1", x.get(1, 0), 9);
    due("the tape", x.count(1), 1);
    begin("restore() leaves no STEPS, also if nothing is otherwise by it");
    x = new KillingForms();
    x.zero(0, 3);
    x.image();
    due("a step", x.count(0), 1);
    due("nothing is otherwise", x.restore(), 3);
    due("no step", x.count(0), 0);
    due("none", x.back(), STATE);
    due("register 0", x.told(0, 0), 3);
  }

  private static void texts() {
    begin("A TERM in a TEXT has the DEGREE of its letters, also with the number 0");
    KillingForms x = new KillingForms();
    due("0x2", readText(x, "form 0 = 0x2"), 1);
    dueText("0x2", written(x, 0), "0:2");
    due("0+x", readText(x, "form 0 = 0+x"), -200);
    due("x-x", readText(x, "form 0 = x-x"), 1);
    dueText("x-x", written(x, 0), "0:1");
    begin("line K = N , N , N: one blank ahead of and behind each comma");
    due("well", readText(x, "line 0 = 1 , 2 , 3"), 1);
    due("none ahead", readText(x, "line 0 = 1, 2 , 3"), -110);
    due("none behind", readText(x, "line 0 = 1 ,2 , 3"), -112);
  }

  private static void leads() {
    begin("LEAD (what 0): ten times a, and b");
    KillingForms x = with("form 0 = 9x5+8y5+7z5+6x3y2+5x2yz2");
    int[] places = {50, 5, 0, 32, 21};
    for (int k = 0; k < 5; k++) {
      due("lead(0, " + k + ", 0)", x.lead(0, k, 0), places[k]);
    }
  }

  private static void tape() {
    begin("THE TAPE is empty behind each call that reads it, by a FAULT and by all that is refused behind its text, too");
    KillingForms x = new KillingForms();
    for (String text : new String[] {"zero 0 1", "zero 0", "zero 0 9", "zero 0 1;zero 9 1", ""}) {
      readText(x, text);
      due("behind " + text, x.count(1), 0);
    }
    begin("read(): FAULT, then -200 less the ACTS");
    due("both", readText(x, "zero 9 9;zero 9"), -115);
    due("the second alone", readText(x, "zero 0 0;zero 9 9"), -201);
  }

  private static void firstRefusal() {
    begin("ANSWERS that are refusals, of several the first as the call's words name them");
    KillingForms x = with("form 0 = x4y;form 1 = xyz;form 2 = x3");
    due("sum: BAD, STATE", x.sum(4, 0, 1, 1), BAD);
    due("sum: BAD, STATE", x.sum(0, 0, 1, 101), BAD);
    due("sum: STATE", x.sum(0, 0, 1, 1), STATE);
    due("contract: BAD, STATE", x.contract(4, 0, 1), BAD);
    due("contract: STATE", x.contract(3, 0, 1), STATE);
    due("multiply: BAD, STATE", x.multiply(-1, 0, 1), BAD);
    due("multiply: STATE", x.multiply(3, 0, 1), STATE);
    due("killer: BAD k, NOT", x.killer(0, 0, -2, 9), BAD);
    due("killer: NOT", x.killer(0, 0, 0, 0), NOT);
    due("deepest: BAD i below, STATE", x.deepest(1, -1), BAD);
    due("deepest: BAD r, STATE", x.deepest(4, 0), BAD);
    due("deepest: STATE", x.deepest(1, 9), STATE);
    due("root: BAD, STATE", x.root(1, -2), BAD);
    due("root: STATE, NOT", x.root(1, 9), STATE);
    due("root: NOT", x.root(0, 9), NOT);
    due("weight: BAD, STATE", x.weight(1, -1), BAD);
    due("weight: BAD, STATE not parted", x.weight(0, -1), BAD);
    due("weight: STATE, NOT", x.weight(1, 9), STATE);
    due("weight: STATE not parted, NOT", x.weight(0, 9), STATE);
    due("weight: NOT", x.weight(2, 9), NOT);
    due("lead: BAD, NOT", x.lead(0, 9, 2), BAD);
    due("lead: NOT", x.lead(0, 9, 1), NOT);
    due("tally: BAD, NOT", x.tally(0, 9, 2), BAD);
    due("tally: NOT", x.tally(0, 9, 1), NOT);
    due("say: BAD, NOT", x.say(4, 99), BAD);
    due("say: NOT", x.say(0, 99), NOT);
    begin("of several refusals of RACKS and ROWS the first as the call's words name them");
    due("store: BAD rack, -13", x.store(3, 9, 0, 0), BAD);
    due("store: -13, BAD kind", x.store(0, 9, 2, 0), BAD);
    due("store: -13, BAD k", x.store(0, 9, 0, 4), BAD);
    due("store: -16, BAD k", x.store(0, 0, 1, 6), BAD);
    due("store: -13, -16", x.store(0, 9, 1, 0), OUTSIDE);
    due("store: -16", x.store(0, 0, 1, 0), NOT_TAKEN);
    due("holds: BAD, -13", x.holds(3, 9), BAD);
    due("fetch: BAD, -13", x.fetch(3, 9, 0), BAD);
    due("fetch: -13, BAD k", x.fetch(0, 9, 9), OUTSIDE);
    due("fetch: NOT, BAD k", x.fetch(0, 0, 9), NOT);
    x.store(0, 0, 0, 0);
    due("fetch: BAD k", x.fetch(0, 0, 9), BAD);
    due("row: BAD, -14", x.row(3, -2), BAD);
    due("row: -14", x.row(0, -2), SMALL);
    due("lay: BAD, -11", x.lay(3, 0, 0), BAD);
    due("lay: -11, -13", x.lay(0, 9, 0), MISSING);
    due("get: BAD, -11", x.get(3, 0), BAD);
    due("get: -11, -13", x.get(0, 9), MISSING);
    due("judge: BAD r, -11", x.judge(0, 4), BAD);
    due("judge: -11", x.judge(0, 0), MISSING);
    feedText(x, " ".repeat(80));
    due("feed: BAD, FULL", x.feed(31), BAD);
    due("feed: FULL", x.feed(32), FULL);
  }

  private static void nothingChanges() {
    begin("ANSWERS that are refusals (nothing changes but where it is told)");
    KillingForms x = with("form 0 = x2+y2;line 0 = 1 , 2 , 3");
    x.row(0, 2);
    x.lay(0, 1, 5);
    x.put(0, 3, 0, 1);
    x.put(0, 0, 0, 101);
    x.sum(0, 0, 1, 1);
    x.contract(1, 0, 1);
    x.multiply(0, 0, 4);
    x.line(0, 0, 0, 101);
    x.power(0, 0, 6);
    x.adds(0, 6, 1);
    x.zero(0, -1);
    x.row(0, 41);
    x.row(0, -2);
    x.lay(0, 2, 9);
    x.film(0, 4);
    x.store(0, 0, 1, 0);
    x.fetch(0, 0, 0);
    x.feed(200);
    x.restore();
    dueText("register 0", written(x, 0), "x2+y2:2");
    dueText("register 1", written(x, 1), "0:0");
    dueText("line 0", lineText(x, 0), "1,2,3");
    dueText("row 0", rowText(x, 0, 3), "0 5 -13");
    due("steps", x.count(0), 2);
    due("the tape", x.count(1), 0);
    due("racks", x.count(2), 0);
  }
}
