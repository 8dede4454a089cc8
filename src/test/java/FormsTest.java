/** The document's first part, and promises 1 to 14: each sentence that names an edge. */
public final class FormsTest extends Check {
  public static void main(String[] args) {
    numbers();
    monomials();
    registers();
    operators();
    contracted();
    product();
    lines();
    power();
    value();
    zero();
    put();
    of();
    told();
    sum();
    contract();
    multiply();
    line();
    lineOf();
    powerOfRegister();
    adds();
    valueOf();
    kills();
    lastCall();
    finish("forms");
  }

  private static void numbers() {
    begin("All numbers are modulo 101 (0 .. 100)");
    KillingForms x = with("line 0 = 100 , 100 , 100;line 1 = 1 , 0 , 0");
    due("put(0, 0, 0, 100)", x.put(0, 0, 0, 100), 0);
    x.sum(1, 0, 0, 1);
    due("100 and 100", x.of(1, 0, 0), 99);
    x.sum(1, 0, 0, 100);
    due("100 and 100 times 100", x.of(1, 0, 0), 0);
    x.multiply(1, 0, 0);
    due("100 times 100", x.of(1, 0, 0), 1);
    x.contract(1, 0, 0);
    due("100 contracted by 100", x.of(1, 0, 0), 1);
    x.adds(0, 5, 1);
    due("100 and 1", x.of(0, 0, 0), 0);
    x.power(1, 0, 4);
    dueText("100 to the 4", written(x, 1), "x4+x3y+x3z+x2y2+x2yz+x2z2+xy3+xy2z+xyz2+xz3+y4+y3z+y2z2+yz3+z4:4");
    x.power(1, 0, 1);
    dueText("100 to the 1", written(x, 1), "100x+100y+100z:1");
    due("3 times 100 times 100", x.value(1, 0), 3);
    due("100 once", x.value(1, 1), 100);
    x.adds(1, 0, 100);
    dueText("100 and 100 times 100", written(x, 1), "0:1");
    readText(x, "form 1 = 100x+1x+999y+202z-1z");
    dueText("terms", written(x, 1), "90y+100z:1");
  }

  private static void monomials() {
    begin("A FORM of DEGREE d (0 .. 5) has a number for each of its MONOMIALS, numbered: greater a first, of like ones greater b");
    int[] sizes = {1, 3, 6, 10, 15, 21};
    for (int d = 0; d <= 5; d++) {
      KillingForms x = new KillingForms();
      x.zero(0, d);
      due("told(0, 1) by " + d, x.told(0, 1), sizes[d]);
      int place = 0;
      for (int a = d; a >= 0; a--) {
        for (int b = d - a; b >= 0; b--) {
          place++;
          due("put", x.put(0, a, b, place), 0);
        }
      }
      due("film by " + d, x.film(0, 0), sizes[d]);
      for (int i = 0; i < sizes[d]; i++) {
        due("place " + i + " by " + d, x.get(0, i), i + 1);
      }
      due("none is left out by " + d, x.told(0, 2), sizes[d]);
    }
  }

  private static void registers() {
    begin("REGISTERS 0 .. 3 hold a FORM each (DEGREE 0, its number 0, at first)");
    KillingForms x = new KillingForms();
    for (int r = 0; r < 4; r++) {
      due("degree", x.told(r, 0), 0);
      due("number", x.of(r, 0, 0), 0);
      due("filled", x.told(r, 2), 0);
    }
    due("register 4", x.told(4, 0), BAD);
    for (int r = 0; r < 4; r++) {
      x.zero(r, r + 2);
      x.put(r, r, 0, r + 1);
    }
    dueText("register 0", written(x, 0), "z2:2");
    dueText("register 1", written(x, 1), "2xz2:3");
    dueText("register 2", written(x, 2), "3x2z2:4");
    dueText("register 3", written(x, 3), "4x3z2:5");
  }

  private static void operators() {
    begin("Any FORM can be taken as an OPERATOR");
    KillingForms x = with("form 0 = 3x2y+5yz2;form 1 = 7");
    due("by degree 0", x.contract(2, 1, 0), 3);
    dueText("by degree 0", written(x, 2), "21x2y+35yz2:3");
    due("by 0 of degree 0", x.contract(2, 3, 0), 3);
    dueText("by 0 of degree 0", written(x, 2), "0:3");
    due("by 0 of degree 3", x.contract(3, 2, 0), 0);
    dueText("by 0 of degree 3", written(x, 3), "0:0");
    due("by itself, in its own place", x.contract(0, 0, 0), 0);
    dueText("by itself", written(x, 0), "34:0");
  }

  private static void contracted() {
    begin("CONTRACTED by an OPERATOR of DEGREE e (not above d) a FORM of DEGREE d is one of DEGREE d less e");
    for (int d = 0; d <= 5; d++) {
      for (int e = 0; e <= 5; e++) {
        KillingForms x = new KillingForms();
        x.zero(0, d);
        x.zero(1, e);
        due("contract by " + e + " of " + d, x.contract(2, 1, 0), e <= d ? d - e : STATE);
        due("kills by " + e + " of " + d, x.kills(1, 0), e <= d ? 1 : STATE);
      }
    }
    begin("where no letter has a greater power in p than in q");
    dueContracted("x2y", "x", "xy:2");
    dueContracted("x2y", "y", "x2:2");
    dueContracted("x2y", "z", "0:2");
    dueContracted("x2y", "x2", "y:1");
    dueContracted("x2y", "xy", "x:1");
    dueContracted("x2y", "y2", "0:1");
    dueContracted("x2y", "xz", "0:1");
    dueContracted("x2y", "x2y", "1:0");
    dueContracted("x2y", "x3", "0:0");
    dueContracted("x2y", "xyz", "0:0");
    dueContracted("z5", "z4", "z:1");
    dueContracted("z5", "z5", "1:0");
    dueContracted("z5", "yz4", "0:0");
    begin("the product of both numbers comes to the MONOMIAL whose powers are those of q less those of p");
    dueContracted("2x2+5xy+7y2", "x+y", "7x+12y:1");
    dueContracted("60xyz", "2yz", "19x:1");
    dueContracted("x2y3+x3yz", "xy+100y2", "100x2y+x2z+xy2:3");
  }

  private static void dueContracted(String form, String operator, String want) {
    KillingForms x = with("form 0 = " + form, "form 1 = " + operator);
    x.contract(2, 1, 0);
    dueText(form + " contracted by " + operator, written(x, 2), want);
    due(operator + " kills " + form, x.kills(1, 0), want.startsWith("0:") ? 1 : 0);
  }

  private static void product() {
    begin("PRODUCT of two FORMS (DEGREES 5 at most together)");
    for (int d = 0; d <= 5; d++) {
      for (int e = 0; e <= 5; e++) {
        KillingForms x = new KillingForms();
        x.zero(0, d);
        x.zero(1, e);
        x.put(0, 0, d, 2);
        x.put(1, 0, 0, 51);
        boolean isWell = d + e <= 5;
        due("multiply " + d + ", " + e, x.multiply(2, 0, 1), isWell ? d + e : STATE);
        due("degree " + d + ", " + e, x.told(2, 0), isWell ? d + e : 0);
        due("number " + d + ", " + e, isWell ? x.of(2, 0, d) : 1, 1);
        due("filled " + d + ", " + e, x.told(2, 2), isWell ? 1 : 0);
      }
    }
    begin("the product of both numbers comes to the one whose powers are those of p and q together");
    KillingForms x = with("form 0 = x+y;form 1 = x-y;form 2 = x2+y2");
    x.multiply(3, 0, 1);
    dueText("what comes to 0", written(x, 3), "x2+100y2:2");
    x.multiply(3, 2, 3);
    dueText("in its own place", written(x, 3), "x4+100y4:4");
    x.multiply(3, 3, 0);
    dueText("5 together", written(x, 3), "x5+x4y+100xy4+100y5:5");
  }

  private static void lines() {
    begin("LINES 0 .. 5: u, v, w (0 .. 100; 0, 0, 0 at first)");
    KillingForms x = new KillingForms();
    for (int k = 0; k < 6; k++) {
      dueText("at first", lineText(x, k), "0,0,0");
      due("line", x.line(k, k, 100, 100 - k), 1);
    }
    for (int k = 0; k < 6; k++) {
      dueText("line " + k, lineText(x, k), k + ",100," + (100 - k));
    }
    due("line 6", x.lineOf(6, 0), BAD);
  }

  private static int raised(int base, int exponent) {
    return exponent == 0 ? 1 : base * raised(base, exponent - 1) % 101;
  }

  private static void power() {
    begin("POWER of a LINE to the d: the number u to the a times v to the b times w to the c for each MONOMIAL");
    int[][] lines = {{2, 3, 5}, {100, 51, 7}, {0, 3, 5}, {2, 0, 5}, {2, 3, 0}, {0, 0, 5}, {0, 3, 0}, {2, 0, 0}, {0, 0, 0}};
    for (int[] line : lines) {
      KillingForms x = new KillingForms();
      x.line(0, line[0], line[1], line[2]);
      for (int d = 0; d <= 5; d++) {
        due("power to the " + d, x.power(1, 0, d), d);
        for (int a = 0; a <= d; a++) {
          for (int b = 0; a + b <= d; b++) {
            int want = raised(line[0], a) * raised(line[1], b) % 101 * raised(line[2], d - a - b) % 101;
            due("of(1, " + a + ", " + b + ") to the " + d, x.of(1, a, b), want);
          }
        }
      }
    }
    begin("0 to the 0 is 1");
    KillingForms x = with("line 1 = 1 , 0 , 0;line 2 = 0 , 1 , 0;line 3 = 0 , 0 , 1");
    x.power(0, 0, 0);
    dueText("0, 0, 0 to the 0", written(x, 0), "1:0");
    x.power(0, 0, 1);
    dueText("0, 0, 0 to the 1", written(x, 0), "0:1");
    x.power(0, 1, 5);
    dueText("1, 0, 0 to the 5", written(x, 0), "x5:5");
    x.power(0, 2, 5);
    dueText("0, 1, 0 to the 5", written(x, 0), "y5:5");
    x.power(0, 3, 5);
    dueText("0, 0, 1 to the 5", written(x, 0), "z5:5");
  }

  private static void value() {
    begin("VALUE of a FORM at a LINE: all its numbers, each times u to the a times v to the b times w to the c, together");
    KillingForms x = with("form 0 = x5+2y5+3z5+4x2y2z;form 1 = 9", "line 1 = 100 , 1 , 2;line 2 = 0 , 0 , 1;line 3 = 10 , 10 , 0");
    due("value(0, 1)", x.value(0, 1), (-1 + 2 + 96 + 8) % 101);
    due("value(0, 2)", x.value(0, 2), 3);
    due("value(0, 3)", x.value(0, 3), 3 * 10);
    due("value(0, 0)", x.value(0, 0), 0);
    due("of degree 0", x.value(1, 0), 9);
    x.zero(0, 5);
    due("0 everywhere", x.value(0, 1), 0);
  }

  private static void zero() {
    begin("zero: its DEGREE as it was. BAD.");
    KillingForms x = new KillingForms();
    int before = 0;
    for (int d : new int[] {5, 0, 3, 3, 1, 2, 4}) {
      due("zero(3, " + d + ")", x.zero(3, d), before);
      due("degree", x.told(3, 0), d);
      before = d;
    }
    x.put(3, 4, 0, 9);
    due("zero(3, 4)", x.zero(3, 4), 4);
    due("filled", x.told(3, 2), 0);
    for (int wrong : new int[] {-1, 6, LEAST, GREATEST}) {
      due("zero(3, " + wrong + ")", x.zero(3, wrong), BAD);
    }
    for (int wrong : new int[] {-1, 4, LEAST, GREATEST}) {
      due("zero(" + wrong + ", 1)", x.zero(wrong, 1), BAD);
    }
    due("degree", x.told(3, 0), 4);
  }

  private static void put() {
    begin("put: what it was. BAD: r, a, b (below 0, together above DEGREE), v");
    for (int d = 0; d <= 5; d++) {
      KillingForms x = new KillingForms();
      x.zero(2, d);
      due("put at x", x.put(2, d, 0, 1), 0);
      due("put at x again", x.put(2, d, 0, 0), 1);
      due("put at y", x.put(2, 0, d, 100), 0);
      due("put at z", x.put(2, 0, 0, 7), d == 0 ? 100 : 0);
      due("a above", x.put(2, d + 1, 0, 1), BAD);
      due("b above", x.put(2, 0, d + 1, 1), BAD);
      due("together above", x.put(2, 1, d, 1), BAD);
      due("together above", x.put(2, d, 1, 1), BAD);
      due("a below", x.put(2, -1, d, 1), BAD);
      due("b below", x.put(2, d, -1, 1), BAD);
      due("a below, b above", x.put(2, -1, d + 1, 1), BAD);
      due("together wrapped around", x.put(2, GREATEST, GREATEST, 1), BAD);
      due("together wrapped to 0", x.put(2, LEAST, LEAST, 1), BAD);
      due("v below", x.put(2, 0, 0, -1), BAD);
      due("v above", x.put(2, 0, 0, 101), BAD);
      due("still", x.of(2, 0, 0), 7);
      due("still filled", x.told(2, 2), d == 0 ? 1 : 2);
    }
  }

  private static void of() {
    begin("of: the number of the MONOMIAL with powers a, b. BAD.");
    for (int d = 0; d <= 5; d++) {
      KillingForms x = new KillingForms();
      x.zero(1, d);
      x.put(1, d, 0, 3);
      due("of(1, d, 0)", x.of(1, d, 0), 3);
      due("of(1, 0, 0)", x.of(1, 0, 0), d == 0 ? 3 : 0);
      due("together above", x.of(1, d, 1), BAD);
      due("together above", x.of(1, 1, d), BAD);
      due("a above", x.of(1, d + 1, -1), BAD);
      due("b above", x.of(1, -1, d + 1), BAD);
      due("together wrapped around", x.of(1, GREATEST, 2), BAD);
      due("together wrapped around", x.of(1, 2, GREATEST), BAD);
      due("together wrapped to 0", x.of(1, LEAST, LEAST), BAD);
      due("no such register", x.of(4, 0, 0), BAD);
      due("no such register", x.of(-1, 0, 0), BAD);
    }
  }

  private static void told() {
    begin("told: DEGREE (what 0), how many MONOMIALS it has (1), how many with numbers that are not 0 (2), TWO LETTERS (3). BAD.");
    KillingForms x = with("form 0 = x4z-x4z+y5;form 1 = z");
    due("degree", x.told(0, 0), 5);
    due("monomials", x.told(0, 1), 21);
    due("filled", x.told(0, 2), 1);
    due("two letters, since z has 0", x.told(0, 3), 1);
    due("not in two letters", x.told(1, 3), 0);
    for (int wrong : new int[] {-1, 4, LEAST, GREATEST}) {
      due("told(0, " + wrong + ")", x.told(0, wrong), BAD);
      due("told(" + wrong + ", 0)", x.told(wrong, 0), BAD);
    }
  }

  private static void sum() {
    begin("sum: s and v times t together: its DEGREE. BAD: r, s, t, v (0 .. 100); STATE: unlike DEGREES");
    KillingForms x = with("form 0 = x+2y;form 1 = 3y+4z;form 2 = z2");
    due("v 0", x.sum(3, 0, 1, 0), 1);
    dueText("v 0", written(x, 3), "x+2y:1");
    due("v 100", x.sum(3, 0, 1, 100), 1);
    dueText("v 100", written(x, 3), "x+100y+97z:1");
    due("r is t", x.sum(1, 0, 1, 2), 1);
    dueText("r is t", written(x, 1), "x+8y+8z:1");
    due("r is s and t", x.sum(0, 0, 0, 1), 1);
    dueText("r is s and t", written(x, 0), "2x+4y:1");
    due("what r was does not matter", x.sum(2, 0, 0, 0), 1);
    dueText("what r was does not matter", written(x, 2), "2x+4y:1");
    x.zero(2, 2);
    due("unlike", x.sum(3, 0, 2, 1), STATE);
    due("unlike", x.sum(3, 2, 0, 1), STATE);
    due("unlike, v 0", x.sum(3, 0, 2, 0), STATE);
    dueText("nothing changes", written(x, 3), "x+100y+97z:1");
    for (int wrong : new int[] {-1, 4, LEAST, GREATEST}) {
      due("r", x.sum(wrong, 0, 0, 1), BAD);
      due("s", x.sum(0, wrong, 0, 1), BAD);
      due("t", x.sum(0, 0, wrong, 1), BAD);
    }
    for (int wrong : new int[] {-1, 101, LEAST, GREATEST}) {
      due("v", x.sum(0, 0, 0, wrong), BAD);
    }
  }

  private static void contract() {
    begin("contract: t CONTRACTED by s: its DEGREE. BAD; STATE: s has the greater DEGREE");
    KillingForms x = with("form 0 = x3y;form 1 = xy;form 2 = x5");
    due("greater by 1", x.contract(3, 2, 0), STATE);
    due("r is s", x.contract(1, 1, 0), 2);
    dueText("r is s", written(x, 1), "x2:2");
    due("r is t", x.contract(0, 1, 0), 2);
    dueText("r is t", written(x, 0), "xy:2");
    due("like degrees", x.contract(3, 1, 0), 0);
    dueText("like degrees", written(x, 3), "0:0");
    for (int wrong : new int[] {-1, 4, LEAST, GREATEST}) {
      due("r", x.contract(wrong, 0, 0), BAD);
      due("s", x.contract(0, wrong, 0), BAD);
      due("t", x.contract(0, 0, wrong), BAD);
    }
  }

  private static void multiply() {
    begin("multiply: PRODUCT of s and t: its DEGREE. BAD; STATE: above 5");
    KillingForms x = with("form 0 = x+z;form 1 = 2y2;form 2 = y3");
    due("r is s", x.multiply(0, 0, 1), 3);
    dueText("r is s", written(x, 0), "2xy2+2y2z:3");
    due("6", x.multiply(0, 0, 2), STATE);
    due("r is t", x.multiply(1, 2, 1), 5);
    dueText("r is t", written(x, 1), "2y5:5");
    due("5 and 0", x.multiply(1, 1, 3), 5);
    dueText("times 0", written(x, 1), "0:5");
    due("10", x.multiply(0, 1, 1), STATE);
    dueText("nothing changes", written(x, 0), "2xy2+2y2z:3");
    for (int wrong : new int[] {-1, 4, LEAST, GREATEST}) {
      due("r", x.multiply(wrong, 3, 3), BAD);
      due("s", x.multiply(3, wrong, 3), BAD);
      due("t", x.multiply(3, 3, wrong), BAD);
    }
  }

  private static void line() {
    begin("line: LINE k becomes u, v, w: 1. BAD.");
    KillingForms x = new KillingForms();
    due("greatest", x.line(5, 100, 100, 100), 1);
    for (int wrong : new int[] {-1, 101, LEAST, GREATEST}) {
      due("u", x.line(5, wrong, 0, 0), BAD);
      due("v", x.line(5, 0, wrong, 0), BAD);
      due("w", x.line(5, 0, 0, wrong), BAD);
    }
    for (int wrong : new int[] {-1, 6, LEAST, GREATEST}) {
      due("k", x.line(wrong, 0, 0, 0), BAD);
    }
    dueText("nothing changes", lineText(x, 5), "100,100,100");
    due("back to 0", x.line(5, 0, 0, 0), 1);
    dueText("back to 0", lineText(x, 5), "0,0,0");
  }

  private static void lineOf() {
    begin("lineOf: u (i 0), v (1), w (2) of a LINE. BAD.");
    KillingForms x = with("line 5 = 1 , 2 , 3;line 0 = 4 , 5 , 6");
    dueText("line 5", lineText(x, 5), "1,2,3");
    dueText("line 0", lineText(x, 0), "4,5,6");
    for (int wrong : new int[] {-1, 3, LEAST, GREATEST}) {
      due("i", x.lineOf(5, wrong), BAD);
    }
    for (int wrong : new int[] {-1, 6, LEAST, GREATEST}) {
      due("k", x.lineOf(wrong, 0), BAD);
    }
  }

  private static void powerOfRegister() {
    begin("power: A REGISTER becomes POWER of a LINE to the d: d. BAD.");
    KillingForms x = with("line 5 = 2 , 0 , 1;form 3 = y5");
    due("d 0", x.power(3, 5, 0), 0);
    dueText("d 0", written(x, 3), "1:0");
    due("d 5", x.power(3, 5, 5), 5);
    dueText("d 5", written(x, 3), "32x5+16x4z+8x3z2+4x2z3+2xz4+z5:5");
    for (int wrong : new int[] {-1, 6, LEAST, GREATEST}) {
      due("k", x.power(3, wrong, 1), BAD);
      due("d", x.power(3, 5, wrong), BAD);
    }
    for (int wrong : new int[] {-1, 4, LEAST, GREATEST}) {
      due("r", x.power(wrong, 5, 1), BAD);
    }
    dueText("nothing changes", written(x, 3), "32x5+16x4z+8x3z2+4x2z3+2xz4+z5:5");
  }

  private static void adds() {
    begin("adds: POWER of a LINE to the DEGREE of a REGISTER, v times (0 .. 100), comes to that: its DEGREE. BAD.");
    KillingForms x = with("line 5 = 2 , 0 , 1;form 3 = y2");
    due("v 0", x.adds(3, 5, 0), 2);
    dueText("v 0", written(x, 3), "y2:2");
    due("v 100", x.adds(3, 5, 100), 2);
    dueText("v 100", written(x, 3), "97x2+99xz+y2+100z2:2");
    due("v 1", x.adds(3, 5, 1), 2);
    dueText("v 1", written(x, 3), "y2:2");
    due("a line 0, 0, 0", x.adds(3, 0, 7), 2);
    dueText("a line 0, 0, 0", written(x, 3), "y2:2");
    for (int wrong : new int[] {-1, 101, LEAST, GREATEST}) {
      due("v", x.adds(3, 5, wrong), BAD);
    }
    for (int wrong : new int[] {-1, 6, LEAST, GREATEST}) {
      due("k", x.adds(3, wrong, 1), BAD);
    }
    for (int wrong : new int[] {-1, 4, LEAST, GREATEST}) {
      due("r", x.adds(wrong, 5, 1), BAD);
    }
  }

  private static void valueOf() {
    begin("value: VALUE of a REGISTER at a LINE. BAD.");
    KillingForms x = with("line 5 = 2 , 0 , 1;form 3 = x2+y2");
    due("value(3, 5)", x.value(3, 5), 4);
    for (int wrong : new int[] {-1, 6, LEAST, GREATEST}) {
      due("k", x.value(3, wrong), BAD);
    }
    for (int wrong : new int[] {-1, 4, LEAST, GREATEST}) {
      due("r", x.value(wrong, 5), BAD);
    }
  }

  private static void kills() {
    begin("kills: whether REGISTER t CONTRACTED by s is 0 (1, 0). BAD; STATE: s has the greater DEGREE");
    KillingForms x = with("form 0 = x2+y2;form 1 = x2-y2;form 2 = xy2;form 3 = z");
    due("what comes to 0", x.kills(1, 0), 1);
    due("of like degree", x.kills(0, 0), 0);
    due("greater by 1", x.kills(2, 0), STATE);
    due("less", x.kills(3, 2), 1);
    due("less", x.kills(0, 2), 0);
    due("in one letter that is there no more", x.kills(3, 3), 0);
    for (int wrong : new int[] {-1, 4, LEAST, GREATEST}) {
      due("s", x.kills(wrong, 0), BAD);
      due("t", x.kills(0, wrong), BAD);
    }
  }

  private static void lastCall() {
    begin("An object is used for at most 512 calls after it has been made");
    KillingForms x = new KillingForms();
    for (int call = 1; call <= 510; call++) {
      due("call " + call, x.adds(0, 0, 1), 0);
    }
    due("call 511", x.of(0, 0, 0), 5);
    due("call 512", x.count(0), 8);
  }
}
