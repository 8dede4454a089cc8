/** For each promise of the document: ordinary calls, the edges that it names, and wrong calls. */
public final class KillingFormsTest extends Check {
  public static void main(String[] args) {
    newObject();
    zero();
    put();
    of();
    told();
    sum();
    contract();
    multiply();
    line();
    lineOf();
    power();
    adds();
    value();
    kills();
    rank();
    killer();
    deep();
    deepest();
    root();
    weight();
    tangent();
    lead();
    tally();
    store();
    holds();
    fetch();
    row();
    lay();
    get();
    film();
    judge();
    say();
    back();
    feed();
    wipe();
    read();
    image();
    restore();
    count();
    finish("promises");
  }

  private static void newObject() {
    begin("promise 1");
    KillingForms x = new KillingForms();
    for (int r = 0; r < 4; r++) {
      dueText("register " + r, written(x, r), "0:0");
      due("told(r, 1)", x.told(r, 1), 1);
    }
    for (int k = 0; k < 6; k++) {
      dueText("line " + k, lineText(x, k), "0,0,0");
    }
    for (int rack = 0; rack < 3; rack++) {
      for (int i = 0; i < 4; i++) {
        due("holds", x.holds(rack, i), NOT);
      }
      due("get", x.get(rack, 0), MISSING);
    }
    for (int what = 0; what < 5; what++) {
      due("count " + what, x.count(what), 0);
    }
    due("back", x.back(), STATE);
    due("restore", x.restore(), STATE);
  }

  private static void zero() {
    begin("promise 2");
    KillingForms x = new KillingForms();
    due("zero(3, 5)", x.zero(3, 5), 0);
    due("zero(3, 2)", x.zero(3, 2), 5);
    due("put", x.put(3, 1, 1, 7), 0);
    dueText("register 3", written(x, 3), "7xy:2");
    due("zero(3, 2)", x.zero(3, 2), 2);
    dueText("register 3", written(x, 3), "0:2");
    due("zero(3, 0)", x.zero(3, 0), 2);
    due("zero(-1, 0)", x.zero(-1, 0), BAD);
    due("zero(4, 0)", x.zero(4, 0), BAD);
    due("zero(0, -1)", x.zero(0, -1), BAD);
    due("zero(0, 6)", x.zero(0, 6), BAD);
    due("told(0, 0)", x.told(0, 0), 0);
  }

  private static void put() {
    begin("promise 3");
    KillingForms x = new KillingForms();
    due("put degree 0", x.put(0, 0, 0, 100), 0);
    due("put again", x.put(0, 0, 0, 3), 100);
    due("put a above", x.put(0, 1, 0, 3), BAD);
    x.zero(0, 3);
    due("put(0, 3, 0, 1)", x.put(0, 3, 0, 1), 0);
    due("put(0, 0, 3, 2)", x.put(0, 0, 3, 2), 0);
    due("put(0, 0, 0, 3)", x.put(0, 0, 0, 3), 0);
    due("put(0, 1, 1, 4)", x.put(0, 1, 1, 4), 0);
    due("put(0, 1, 1, 0)", x.put(0, 1, 1, 0), 4);
    dueText("register 0", written(x, 0), "x3+2y3+3z3:3");
    due("put(0, 2, 2, 1)", x.put(0, 2, 2, 1), BAD);
    due("put(0, -1, 2, 1)", x.put(0, -1, 2, 1), BAD);
    due("put(0, 2, -1, 1)", x.put(0, 2, -1, 1), BAD);
    due("put(0, 4, 0, 1)", x.put(0, 4, 0, 1), BAD);
    due("put(0, 0, 4, 1)", x.put(0, 0, 4, 1), BAD);
    due("put of great powers", x.put(0, GREATEST, GREATEST, 1), BAD);
    due("put of great and small", x.put(0, GREATEST, LEAST, 1), BAD);
    due("put(0, 0, 0, 101)", x.put(0, 0, 0, 101), BAD);
    due("put(0, 0, 0, -1)", x.put(0, 0, 0, -1), BAD);
    due("put(4, 0, 0, 1)", x.put(4, 0, 0, 1), BAD);
    due("put(-1, 0, 0, 1)", x.put(-1, 0, 0, 1), BAD);
    dueText("register 0", written(x, 0), "x3+2y3+3z3:3");
  }

  private static void of() {
    begin("promise 4");
    KillingForms x = with("form 1 = 5x2+6xy+7xz+8y2+9yz+10z2");
    due("of(1, 2, 0)", x.of(1, 2, 0), 5);
    due("of(1, 1, 1)", x.of(1, 1, 1), 6);
    due("of(1, 1, 0)", x.of(1, 1, 0), 7);
    due("of(1, 0, 2)", x.of(1, 0, 2), 8);
    due("of(1, 0, 1)", x.of(1, 0, 1), 9);
    due("of(1, 0, 0)", x.of(1, 0, 0), 10);
    due("of(1, 2, 1)", x.of(1, 2, 1), BAD);
    due("of(1, 0, 3)", x.of(1, 0, 3), BAD);
    due("of(1, 3, 0)", x.of(1, 3, 0), BAD);
    due("of(1, -1, 0)", x.of(1, -1, 0), BAD);
    due("of(1, 0, -1)", x.of(1, 0, -1), BAD);
    due("of(1, great, great)", x.of(1, GREATEST, GREATEST), BAD);
    due("of(4, 0, 0)", x.of(4, 0, 0), BAD);
    due("of(-1, 0, 0)", x.of(-1, 0, 0), BAD);
  }

  private static void told() {
    begin("promise 5");
    KillingForms x = with("form 0 = 5x2y+0xyz+7y3");
    int[] sizes = {1, 3, 6, 10, 15, 21};
    due("told(0, 0)", x.told(0, 0), 3);
    due("told(0, 1)", x.told(0, 1), 10);
    due("told(0, 2)", x.told(0, 2), 2);
    due("told(0, 3)", x.told(0, 3), 1);
    x.put(0, 1, 1, 1);
    due("told(0, 2)", x.told(0, 2), 3);
    due("told(0, 3)", x.told(0, 3), 0);
    for (int d = 0; d <= 5; d++) {
      x.zero(1, d);
      due("told(1, 1)", x.told(1, 1), sizes[d]);
      due("told(1, 3) of 0", x.told(1, 3), 1);
      x.put(1, 0, 0, 1);
      due("told(1, 3)", x.told(1, 3), d == 0 ? 1 : 0);
    }
    due("told(0, 4)", x.told(0, 4), BAD);
    due("told(0, -1)", x.told(0, -1), BAD);
    due("told(4, 0)", x.told(4, 0), BAD);
    due("told(-1, 0)", x.told(-1, 0), BAD);
  }

  private static void sum() {
    begin("promise 6");
    KillingForms x = with("form 0 = 3x2+100yz;form 1 = 50x2+2yz+z2;form 2 = x");
    due("sum(3, 0, 1, 2)", x.sum(3, 0, 1, 2), 2);
    dueText("register 3", written(x, 3), "2x2+3yz+2z2:2");
    due("sum(0, 0, 0, 100)", x.sum(0, 0, 0, 100), 2);
    dueText("register 0", written(x, 0), "0:2");
    due("sum(1, 3, 1, 0)", x.sum(1, 3, 1, 0), 2);
    dueText("register 1", written(x, 1), "2x2+3yz+2z2:2");
    due("sum(1, 0, 2, 1)", x.sum(1, 0, 2, 1), STATE);
    due("sum(1, 0, 2, 101)", x.sum(1, 0, 2, 101), BAD);
    due("sum(1, 0, 1, -1)", x.sum(1, 0, 1, -1), BAD);
    due("sum(4, 0, 0, 1)", x.sum(4, 0, 0, 1), BAD);
    due("sum(-1, 0, 0, 1)", x.sum(-1, 0, 0, 1), BAD);
    due("sum(0, 4, 0, 1)", x.sum(0, 4, 0, 1), BAD);
    due("sum(0, 0, -1, 1)", x.sum(0, 0, -1, 1), BAD);
    due("sum(0, 0, 4, 1)", x.sum(0, 0, 4, 1), BAD);
    dueText("register 1", written(x, 1), "2x2+3yz+2z2:2");
  }

  private static void contract() {
    begin("promise 7");
    KillingForms x = with("form 0 = 5x3y+7xy2z+2z4", "form 1 = xy+3z2");
    due("contract(2, 1, 0)", x.contract(2, 1, 0), 2);
    dueText("register 2", written(x, 2), "5x2+7yz+6z2:2");
    due("contract(0, 0, 0)", x.contract(0, 0, 0), 0);
    dueText("register 0", written(x, 0), "78:0");
    due("contract(0, 1, 0)", x.contract(0, 1, 0), STATE);
    x = with("form 0 = 5x3y", "form 1 = z;form 2 = 2");
    due("contract(1, 1, 0)", x.contract(1, 1, 0), 3);
    dueText("register 1", written(x, 1), "0:3");
    due("contract(0, 2, 0)", x.contract(0, 2, 0), 4);
    dueText("register 0", written(x, 0), "10x3y:4");
    x = with("form 0 = 7x4+2x3z+z4;form 1 = x3+3z3");
    due("contract(2, 1, 0)", x.contract(2, 1, 0), 1);
    dueText("register 2", written(x, 2), "7x+5z:1");
    due("contract(4, 0, 0)", x.contract(4, 0, 0), BAD);
    due("contract(0, 4, 0)", x.contract(0, 4, 0), BAD);
    due("contract(0, 0, 4)", x.contract(0, 0, 4), BAD);
    due("contract(-1, 0, 2)", x.contract(-1, 0, 2), BAD);
    due("contract(0, -1, 2)", x.contract(0, -1, 2), BAD);
    due("contract(0, 0, -1)", x.contract(0, 0, -1), BAD);
  }

  private static void multiply() {
    begin("promise 8");
    KillingForms x = with("form 0 = x+2y+100z;form 1 = 3x2+50yz");
    due("multiply(2, 0, 1)", x.multiply(2, 0, 1), 3);
    dueText("register 2", written(x, 2), "3x3+6x2y+98x2z+50xyz+100y2z+51yz2:3");
    due("multiply(1, 1, 1)", x.multiply(1, 1, 1), 4);
    dueText("register 1", written(x, 1), "9x4+98x2yz+76y2z2:4");
    due("multiply(1, 1, 0)", x.multiply(1, 1, 0), 5);
    due("multiply(1, 1, 0)", x.multiply(1, 1, 0), STATE);
    due("multiply(2, 2, 2)", x.multiply(2, 2, 2), STATE);
    due("multiply(1, 1, 3)", x.multiply(1, 1, 3), 5);
    dueText("register 1", written(x, 1), "0:5");
    due("multiply(4, 1, 1)", x.multiply(4, 1, 1), BAD);
    due("multiply(1, 4, 1)", x.multiply(1, 4, 1), BAD);
    due("multiply(1, 1, 4)", x.multiply(1, 1, 4), BAD);
    due("multiply(-1, 0, 0)", x.multiply(-1, 0, 0), BAD);
    due("multiply(0, -1, 0)", x.multiply(0, -1, 0), BAD);
    due("multiply(0, 0, -1)", x.multiply(0, 0, -1), BAD);
  }

  private static void line() {
    begin("promise 9");
    KillingForms x = new KillingForms();
    due("line(0, 100, 0, 1)", x.line(0, 100, 0, 1), 1);
    due("line(5, 1, 2, 3)", x.line(5, 1, 2, 3), 1);
    due("line(5, 1, 2, 3)", x.line(5, 1, 2, 3), 1);
    dueText("line 0", lineText(x, 0), "100,0,1");
    dueText("line 5", lineText(x, 5), "1,2,3");
    due("line(6, 0, 0, 0)", x.line(6, 0, 0, 0), BAD);
    due("line(-1, 0, 0, 0)", x.line(-1, 0, 0, 0), BAD);
    due("line(5, 101, 0, 0)", x.line(5, 101, 0, 0), BAD);
    due("line(5, 0, 101, 0)", x.line(5, 0, 101, 0), BAD);
    due("line(5, 0, 0, 101)", x.line(5, 0, 0, 101), BAD);
    due("line(5, -1, 0, 0)", x.line(5, -1, 0, 0), BAD);
    due("line(5, 0, -1, 0)", x.line(5, 0, -1, 0), BAD);
    due("line(5, 0, 0, -1)", x.line(5, 0, 0, -1), BAD);
    dueText("line 5", lineText(x, 5), "1,2,3");
  }

  private static void lineOf() {
    begin("promise 10");
    KillingForms x = with("line 3 = 7 , 8 , 9");
    due("lineOf(3, 0)", x.lineOf(3, 0), 7);
    due("lineOf(3, 1)", x.lineOf(3, 1), 8);
    due("lineOf(3, 2)", x.lineOf(3, 2), 9);
    due("lineOf(2, 0)", x.lineOf(2, 0), 0);
    due("lineOf(3, 3)", x.lineOf(3, 3), BAD);
    due("lineOf(3, -1)", x.lineOf(3, -1), BAD);
    due("lineOf(6, 0)", x.lineOf(6, 0), BAD);
    due("lineOf(-1, 0)", x.lineOf(-1, 0), BAD);
  }

  private static void power() {
    begin("promise 11");
    KillingForms x = with("line 1 = 2 , 3 , 50;line 2 = 0 , 1 , 0");
    due("power(0, 1, 2)", x.power(0, 1, 2), 2);
    dueText("register 0", written(x, 0), "4x2+6xy+100xz+9y2+49yz+76z2:2");
    due("power(0, 2, 5)", x.power(0, 2, 5), 5);
    dueText("register 0", written(x, 0), "y5:5");
    due("power(0, 3, 0)", x.power(0, 3, 0), 0);
    dueText("register 0", written(x, 0), "1:0");
    due("power(0, 3, 1)", x.power(0, 3, 1), 1);
    dueText("register 0", written(x, 0), "0:1");
    due("power(0, 3, 6)", x.power(0, 3, 6), BAD);
    due("power(0, 3, -1)", x.power(0, 3, -1), BAD);
    due("power(0, 6, 1)", x.power(0, 6, 1), BAD);
    due("power(0, -1, 1)", x.power(0, -1, 1), BAD);
    due("power(4, 0, 1)", x.power(4, 0, 1), BAD);
    due("power(-1, 0, 1)", x.power(-1, 0, 1), BAD);
  }

  private static void adds() {
    begin("promise 12");
    KillingForms x = with("line 1 = 1 , 2 , 0;form 0 = 3x2+z2");
    due("adds(0, 1, 50)", x.adds(0, 1, 50), 2);
    dueText("register 0", written(x, 0), "53x2+100xy+99y2+z2:2");
    due("adds(0, 1, 0)", x.adds(0, 1, 0), 2);
    due("adds(1, 5, 100)", x.adds(1, 5, 100), 0);
    dueText("register 1", written(x, 1), "100:0");
    due("adds(0, 1, 101)", x.adds(0, 1, 101), BAD);
    due("adds(0, 1, -1)", x.adds(0, 1, -1), BAD);
    due("adds(0, 6, 1)", x.adds(0, 6, 1), BAD);
    due("adds(0, -1, 1)", x.adds(0, -1, 1), BAD);
    due("adds(4, 1, 1)", x.adds(4, 1, 1), BAD);
    due("adds(-1, 1, 1)", x.adds(-1, 1, 1), BAD);
    dueText("register 0", written(x, 0), "53x2+100xy+99y2+z2:2");
  }

  private static void value() {
    begin("promise 13");
    KillingForms x = with("form 0 = 3x2y+xz2-5z3;line 1 = 2 , 3 , 4;line 2 = 0 , 0 , 1;form 1 = 17");
    due("value(0, 1)", x.value(0, 1), (36 + 32 - 320 + 303) % 101);
    due("value(0, 2)", x.value(0, 2), 96);
    due("value(0, 0)", x.value(0, 0), 0);
    due("value(1, 0)", x.value(1, 0), 17);
    due("value(1, 1)", x.value(1, 1), 17);
    due("value(4, 0)", x.value(4, 0), BAD);
    due("value(-1, 0)", x.value(-1, 0), BAD);
    due("value(0, 6)", x.value(0, 6), BAD);
    due("value(0, -1)", x.value(0, -1), BAD);
  }

  private static void kills() {
    begin("promise 14");
    KillingForms x = with("form 0 = 5x3y+z4;form 1 = y2;form 2 = z");
    due("kills(1, 0)", x.kills(1, 0), 1);
    due("kills(2, 0)", x.kills(2, 0), 0);
    due("kills(2, 1)", x.kills(2, 1), 1);
    due("kills(0, 0)", x.kills(0, 0), 0);
    due("kills(3, 0)", x.kills(3, 0), 1);
    due("kills(3, 3)", x.kills(3, 3), 1);
    due("kills(1, 2)", x.kills(1, 2), STATE);
    due("kills(4, 0)", x.kills(4, 0), BAD);
    due("kills(0, 4)", x.kills(0, 4), BAD);
    due("kills(-1, 0)", x.kills(-1, 0), BAD);
    due("kills(0, -1)", x.kills(0, -1), BAD);
    due("steps", x.count(0), 3);
    dueText("register 0", written(x, 0), "5x3y+z4:4");
  }

  private static void rank() {
    begin("promise 15");
    KillingForms x = with("form 0 = x2+y2+z2;form 1 = xyz;form 2 = x4y+x4z");
    int[] square = {1, 3, 1};
    int[] product = {1, 3, 3, 1};
    int[] joined = {1, 2, 2, 2, 2, 1};
    for (int e = 0; e <= 2; e++) {
      due("rank(0, " + e + ")", x.rank(0, e), square[e]);
    }
    for (int e = 0; e <= 3; e++) {
      due("rank(1, " + e + ")", x.rank(1, e), product[e]);
      due("rank(3, " + e + ")", x.rank(3, e), e == 0 ? 0 : BAD);
    }
    for (int e = 0; e <= 5; e++) {
      due("rank(2, " + e + ")", x.rank(2, e), joined[e]);
    }
    x.zero(3, 5);
    due("rank of 0", x.rank(3, 2), 0);
    due("rank(0, 3)", x.rank(0, 3), BAD);
    due("rank(0, -1)", x.rank(0, -1), BAD);
    due("rank(4, 0)", x.rank(4, 0), BAD);
    due("rank(-1, 0)", x.rank(-1, 0), BAD);
  }

  private static void killer() {
    begin("promise 16");
    KillingForms x = with("form 0 = x2+3xy+9y2;form 1 = 2x2+3xz+5yz");
    due("killer(0, 1, -1, 0)", x.killer(0, 1, -1, 0), 2);
    dueText("killer 0 by 1", killerText(x, 0, 1, 0), "98 1 0");
    dueText("killer 1 by 1", killerText(x, 0, 1, 1), "0 0 1");
    due("killer(0, 2, -1, 9)", x.killer(0, 2, -1, 9), 5);
    due("killer(0, 2, -1, -9)", x.killer(0, 2, -1, -9), 5);
    dueText("killer 0 by 2", killerText(x, 0, 2, 0), "98 1 0 0 0 0");
    dueText("killer 1 by 2", killerText(x, 0, 2, 1), "0 0 1 0 0 0");
    dueText("killer 2 by 2", killerText(x, 0, 2, 2), "92 0 0 1 0 0");
    dueText("killer 4 by 2", killerText(x, 0, 2, 4), "0 0 0 0 0 1");
    due("killer(1, 1, -1, 0)", x.killer(1, 1, -1, 0), 0);
    due("killer(1, 1, 0, 0)", x.killer(1, 1, 0, 0), NOT);
    due("killer(1, 1, 0, 3)", x.killer(1, 1, 0, 3), BAD);
    due("killer(1, 1, 0, -1)", x.killer(1, 1, 0, -1), BAD);
    due("killer(0, 2, 5, 5)", x.killer(0, 2, 5, 5), NOT);
    due("killer(0, 2, great, 5)", x.killer(0, 2, GREATEST, 5), NOT);
    due("killer(0, 2, -2, 0)", x.killer(0, 2, -2, 0), BAD);
    due("killer(0, 3, -1, 0)", x.killer(0, 3, -1, 0), BAD);
    due("killer(0, -1, -1, 0)", x.killer(0, -1, -1, 0), BAD);
    due("killer(4, 0, -1, 0)", x.killer(4, 0, -1, 0), BAD);
    due("killer(-1, 0, -1, 0)", x.killer(-1, 0, -1, 0), BAD);
    due("killer of 0", x.killer(2, 0, -1, 0), 1);
    due("killer of 0", x.killer(2, 0, 0, 0), 1);
  }

  private static void deep() {
    begin("promise 17");
    KillingForms x = with("form 0 = x5;form 1 = x4y;form 2 = x2y2");
    due("deep of x5", x.deep(0), 1);
    due("deep of x4y", x.deep(1), 2);
    due("deep of x2y2", x.deep(2), 3);
    due("deep of 0", x.deep(3), STATE);
    x.put(3, 0, 0, 5);
    due("deep of 5", x.deep(3), 1);
    x.zero(3, 1);
    due("deep of 0", x.deep(3), STATE);
    x.put(3, 0, 0, 1);
    due("deep of z", x.deep(3), STATE);
    x.put(3, 1, 0, 1);
    due("deep of x+z", x.deep(3), STATE);
    due("deep(4)", x.deep(4), BAD);
    due("deep(-1)", x.deep(-1), BAD);
  }

  private static void deepest() {
    begin("promise 18");
    KillingForms x = with("form 0 = x5;form 1 = x4y;form 2 = x2y2;form 3 = 7");
    dueText("deepest of x5", deepestText(x, 0), "0 1");
    dueText("deepest of x4y", deepestText(x, 1), "0 0 1");
    // xxx and yyy both kill: the one with the earlier place, with the least numbers
    dueText("deepest of x2y2", deepestText(x, 2), "1 0 0 0");
    dueText("deepest of 7", deepestText(x, 3), "1 0");
    readText(x, "form 1 = x2+3xy+9y2");
    dueText("deepest of a power", deepestText(x, 1), "1 67");
    due("above", x.deepest(1, 2), BAD);
    due("great", x.deepest(1, GREATEST), BAD);
    due("below", x.deepest(1, -1), BAD);
    due("deepest(4, 0)", x.deepest(4, 0), BAD);
    due("deepest(-1, 0)", x.deepest(-1, 0), BAD);
    x.zero(0, 3);
    due("of 0", x.deepest(0, 0), STATE);
    due("of 0, any i", x.deepest(0, 99), STATE);
    due("of 0, below", x.deepest(0, -1), BAD);
    x.put(0, 0, 0, 1);
    due("of z3", x.deepest(0, 99), STATE);
  }

  private static void root() {
    begin("promise 19");
    KillingForms x = with("form 0 = x5+y5;form 1 = x4y;form 2 = x2+2xy+4y2;form 3 = 7");
    due("roots of x5+y5", x.root(0, -1), 2);
    due("first", x.root(0, 0), 0);
    due("second", x.root(0, 1), 101);
    due("third", x.root(0, 2), NOT);
    due("great", x.root(0, GREATEST), NOT);
    due("below", x.root(0, -2), BAD);
    due("roots of x4y", x.root(1, -1), 1);
    due("root of x4y", x.root(1, 0), 0);
    due("roots of a power", x.root(2, -1), 1);
    due("root of a power", x.root(2, 0), 2);
    due("roots of 7", x.root(3, -1), 1);
    due("root of 7", x.root(3, 0), 101);
    // 2 is no square modulo 101, so that xx - 2yy has no roots
    readText(x, "form 0 = 2x2+y2");
    due("deep", x.deep(0), 2);
    readText(x, "form 0 = 2x3+4xy2");
    dueText("deepest", deepestText(x, 0), "1 0 50");
    due("roots", x.root(0, -1), 0);
    due("no root", x.root(0, 0), NOT);
    x.zero(0, 3);
    due("of 0", x.root(0, -1), STATE);
    due("of 0, below", x.root(0, -2), BAD);
    x.put(0, 0, 0, 1);
    due("of z3", x.root(0, 5), STATE);
    due("root(4, 0)", x.root(4, 0), BAD);
    due("root(-1, 0)", x.root(-1, 0), BAD);
  }

  private static void weight() {
    begin("promise 20");
    KillingForms x = with("line 1 = 1 , 10 , 0;line 2 = 1 , 9 , 0;line 3 = 0 , 1 , 0", "zero 0 5;add 0 1 7;add 0 2 100;add 0 3 50");
    due("deep", x.deep(0), 3);
    due("root 0", x.root(0, 0), 9);
    due("root 1", x.root(0, 1), 10);
    due("root 2", x.root(0, 2), 101);
    due("weight 0", x.weight(0, 0), 100);
    due("weight 1", x.weight(0, 1), 7);
    due("weight 2", x.weight(0, 2), 50);
    due("weight 3", x.weight(0, 3), NOT);
    due("great", x.weight(0, GREATEST), NOT);
    due("below", x.weight(0, -1), BAD);
    readText(x, "form 1 = 30x3+44y3");
    due("two", x.root(1, -1), 2);
    due("weight of (1, 0, 0)", x.weight(1, 0), 30);
    due("weight of (0, 1, 0)", x.weight(1, 1), 44);
    readText(x, "form 1 = 5x+10y;form 2 = x2+y2");
    due("by degree 1", x.deep(1), 1);
    due("root", x.root(1, 0), 2);
    due("weight", x.weight(1, 0), 5);
    due("no more", x.weight(1, 1), NOT);
    due("by degree 2", x.deep(2), 2);
    due("weight", x.weight(2, 1), 51);
    // two operators of degree 3 kill it, and the first of them has too few roots
    readText(x, "zero 1 4;add 1 1 7;add 1 2 100;add 1 3 50");
    due("deep", x.deep(1), 3);
    due("roots", x.root(1, -1), 1);
    due("not parted", x.weight(1, 0), STATE);
    readText(x, "form 1 = x4y;form 2 = 7;form 3 = 2x3+4xy2");
    due("of x4y", x.weight(1, 0), STATE);
    due("of x4y", x.weight(1, 9), STATE);
    due("of 7", x.weight(2, 0), STATE);
    due("without roots", x.weight(3, 0), STATE);
    x.zero(1, 2);
    due("of 0", x.weight(1, 0), STATE);
    due("of 0, below", x.weight(1, -1), BAD);
    due("weight(4, 0)", x.weight(4, 0), BAD);
    due("weight(-1, 0)", x.weight(-1, 0), BAD);
  }

  private static void tangent() {
    begin("promise 21");
    KillingForms x = with("line 0 = 1 , 0 , 0;line 1 = 0 , 1 , 0;line 2 = 1 , 1 , 0;line 3 = 2 , 0 , 0");
    due("tangent(1, 1, 0)", x.tangent(1, 1, 0), 3);
    due("tangent(2, 1, 0)", x.tangent(2, 1, 0), 3);
    due("tangent(2, 3, 0)", x.tangent(2, 3, 0), 5);
    due("tangent(2, 7, 0)", x.tangent(2, 7, 0), 5);
    due("tangent(2, 7, 1)", x.tangent(2, 7, 1), 6);
    due("tangent(3, 9, 0)", x.tangent(3, 9, 0), 3);
    due("tangent(3, 9, 1)", x.tangent(3, 9, 1), 6);
    due("tangent(5, 63, 1)", x.tangent(5, 63, 1), 18);
    due("tangent(4, 63, 1)", x.tangent(4, 63, 1), 15);
    due("no lines", x.tangent(3, 0, 0), 0);
    due("no lines", x.tangent(3, 0, 1), 0);
    due("a line 0, 0, 0 by 1", x.tangent(1, 16, 0), 3);
    due("a line 0, 0, 0 by 2", x.tangent(2, 16, 0), 0);
    due("a line 0, 0, 0 by 2", x.tangent(2, 16, 1), 3);
    due("tangent(0, 1, 0)", x.tangent(0, 1, 0), BAD);
    due("tangent(6, 1, 0)", x.tangent(6, 1, 0), BAD);
    due("tangent(1, 64, 0)", x.tangent(1, 64, 0), BAD);
    due("tangent(1, -1, 0)", x.tangent(1, -1, 0), BAD);
    due("tangent(1, 1, 2)", x.tangent(1, 1, 2), BAD);
    due("tangent(1, 1, -1)", x.tangent(1, 1, -1), BAD);
  }

  private static void lead() {
    begin("promise 22");
    KillingForms x = with("form 0 = 3x3+9xy2+9xyz+100z3");
    int[] powers = {0, 12, 11, 30};
    int[] numbers = {100, 9, 9, 3};
    for (int k = 0; k < 4; k++) {
      due("lead(0, " + k + ", 0)", x.lead(0, k, 0), powers[k]);
      due("lead(0, " + k + ", 1)", x.lead(0, k, 1), numbers[k]);
    }
    due("lead(0, 4, 0)", x.lead(0, 4, 0), NOT);
    due("lead(0, great, 0)", x.lead(0, GREATEST, 0), NOT);
    due("lead(0, 4, 2)", x.lead(0, 4, 2), BAD);
    due("lead(0, 0, -1)", x.lead(0, 0, -1), BAD);
    due("lead(0, -1, 0)", x.lead(0, -1, 0), BAD);
    due("lead(4, 0, 0)", x.lead(4, 0, 0), BAD);
    due("lead(-1, 0, 0)", x.lead(-1, 0, 0), BAD);
    due("lead of 0", x.lead(1, 0, 0), NOT);
    readText(x, "form 1 = 9x2+9xy+8z2");
    due("the first place", x.lead(1, 0, 0), 20);
    due("the one behind it", x.lead(1, 1, 0), 11);
    due("the last place", x.lead(1, 2, 0), 0);
    due("no more", x.lead(1, 3, 0), NOT);
  }

  private static void tally() {
    begin("promise 23");
    KillingForms x = with("form 0 = 3x3+9xy2+9xyz+100z3");
    int[] numbers = {100, 9, 3, 0};
    int[] many = {1, 2, 1, 6};
    for (int k = 0; k < 4; k++) {
      due("tally(0, " + k + ", 0)", x.tally(0, k, 0), numbers[k]);
      due("tally(0, " + k + ", 1)", x.tally(0, k, 1), many[k]);
    }
    due("tally(0, 4, 0)", x.tally(0, 4, 0), NOT);
    due("tally(0, great, 1)", x.tally(0, GREATEST, 1), NOT);
    due("tally(0, -1, 0)", x.tally(0, -1, 0), 4);
    due("tally(0, -1, 77)", x.tally(0, -1, 77), 4);
    due("tally(0, -1, -7)", x.tally(0, -1, -7), 4);
    due("tally(0, -2, 0)", x.tally(0, -2, 0), BAD);
    due("tally(0, 0, 2)", x.tally(0, 0, 2), BAD);
    due("tally(0, 0, -1)", x.tally(0, 0, -1), BAD);
    due("tally(0, 9, 2)", x.tally(0, 9, 2), BAD);
    due("tally(4, 0, 0)", x.tally(4, 0, 0), BAD);
    due("tally(-1, 0, 0)", x.tally(-1, 0, 0), BAD);
    due("tally of 0", x.tally(1, -1, 0), 1);
    due("tally of 0", x.tally(1, 0, 1), 1);
    readText(x, "form 1 = x+y+z");
    due("tally without 0", x.tally(1, -1, 0), 1);
    due("tally without 0", x.tally(1, 0, 0), 1);
  }

  private static void store() {
    begin("promise 24");
    KillingForms x = with("form 3 = 5x2+y2;line 5 = 1 , 2 , 3");
    due("store(0, 0, 0, 3)", x.store(0, 0, 0, 3), 1);
    due("store(1, 3, 1, 5)", x.store(1, 3, 1, 5), 1);
    due("store(2, 0, 0, 3)", x.store(2, 0, 0, 3), 1);
    due("store(2, 1, 1, 5)", x.store(2, 1, 1, 5), 1);
    due("store(0, 0, 1, 5)", x.store(0, 0, 1, 5), NOT_TAKEN);
    due("store(1, 3, 0, 3)", x.store(1, 3, 0, 3), NOT_TAKEN);
    due("store(0, 4, 1, 5)", x.store(0, 4, 1, 5), OUTSIDE);
    due("store(0, -1, 0, 0)", x.store(0, -1, 0, 0), OUTSIDE);
    due("store(0, 4, 0, 4)", x.store(0, 4, 0, 4), BAD);
    due("store(0, 4, 1, 6)", x.store(0, 4, 1, 6), BAD);
    due("store(0, 0, 1, 6)", x.store(0, 0, 1, 6), BAD);
    due("store(0, 0, 0, -1)", x.store(0, 0, 0, -1), BAD);
    due("store(2, 0, 1, -1)", x.store(2, 0, 1, -1), BAD);
    due("store(2, 0, 2, 0)", x.store(2, 0, 2, 0), BAD);
    due("store(2, 0, -1, 0)", x.store(2, 0, -1, 0), BAD);
    due("store(3, 0, 0, 0)", x.store(3, 0, 0, 0), BAD);
    due("store(-1, 0, 0, 0)", x.store(-1, 0, 0, 0), BAD);
    due("no steps", x.count(0), 2);
    x.zero(3, 1);
    x.line(5, 9, 9, 9);
    x.fetch(0, 0, 0);
    dueText("as it was then", written(x, 0), "5x2+y2:2");
    x.fetch(1, 3, 0);
    dueText("as it was then", lineText(x, 0), "1,2,3");
    due("over the first", x.store(2, 0, 1, 5), 1);
    due("holds", x.holds(2, 0), 1);
  }

  private static void holds() {
    begin("promise 25");
    KillingForms x = new KillingForms();
    x.store(0, 1, 0, 0);
    x.store(2, 2, 1, 0);
    due("holds(0, 1)", x.holds(0, 1), 0);
    due("holds(2, 2)", x.holds(2, 2), 1);
    due("holds(0, 0)", x.holds(0, 0), NOT);
    due("holds(1, 1)", x.holds(1, 1), NOT);
    due("holds(0, 4)", x.holds(0, 4), OUTSIDE);
    due("holds(0, -1)", x.holds(0, -1), OUTSIDE);
    due("holds(3, 4)", x.holds(3, 4), BAD);
    due("holds(-1, 0)", x.holds(-1, 0), BAD);
  }

  private static void fetch() {
    begin("promise 26");
    KillingForms x = with("form 3 = 5x2+y2;line 5 = 1 , 2 , 3");
    x.store(2, 0, 0, 3);
    x.store(2, 3, 1, 5);
    due("fetch(2, 0, 1)", x.fetch(2, 0, 1), 0);
    dueText("register 1", written(x, 1), "5x2+y2:2");
    due("fetch(2, 3, 4)", x.fetch(2, 3, 4), 1);
    dueText("line 4", lineText(x, 4), "1,2,3");
    due("steps", x.count(0), 4);
    due("fetch(2, 0, 3)", x.fetch(2, 0, 3), 0);
    due("nothing otherwise", x.count(0), 4);
    due("fetch(2, 0, 4)", x.fetch(2, 0, 4), BAD);
    due("fetch(2, 0, -1)", x.fetch(2, 0, -1), BAD);
    due("fetch(2, 3, 6)", x.fetch(2, 3, 6), BAD);
    due("fetch(2, 3, -1)", x.fetch(2, 3, -1), BAD);
    due("fetch(2, 1, 9)", x.fetch(2, 1, 9), NOT);
    due("fetch(2, 4, 9)", x.fetch(2, 4, 9), OUTSIDE);
    due("fetch(2, -1, 0)", x.fetch(2, -1, 0), OUTSIDE);
    due("fetch(3, 4, 0)", x.fetch(3, 4, 0), BAD);
    due("fetch(-1, 0, 0)", x.fetch(-1, 0, 0), BAD);
    due("still held", x.holds(2, 0), 0);
  }

  private static void row() {
    begin("promise 27");
    KillingForms x = new KillingForms();
    due("row(2, 40)", x.row(2, 40), 1);
    due("get(2, 39)", x.get(2, 39), 0);
    due("lay(2, 39, 5)", x.lay(2, 39, 5), 1);
    due("row(2, 40)", x.row(2, 40), 1);
    due("all 0", x.get(2, 39), 0);
    x.lay(2, 0, 7);
    x.row(2, 3);
    due("all 0", x.get(2, 0), 0);
    due("row(2, 0)", x.row(2, 0), 1);
    due("get(2, 0)", x.get(2, 0), OUTSIDE);
    due("row(2, -1)", x.row(2, -1), 1);
    due("get(2, 0)", x.get(2, 0), MISSING);
    due("row(2, -1)", x.row(2, -1), 1);
    due("row(0, 2)", x.row(0, 2), 1);
    due("row(0, 41)", x.row(0, 41), BAD);
    due("row(0, -2)", x.row(0, -2), SMALL);
    due("row(0, least)", x.row(0, LEAST), SMALL);
    due("row(3, -2)", x.row(3, -2), BAD);
    due("row(-1, -2)", x.row(-1, -2), BAD);
    due("get(0, 1)", x.get(0, 1), 0);
    due("get(0, 2)", x.get(0, 2), OUTSIDE);
  }

  private static void lay() {
    begin("promise 28");
    KillingForms x = new KillingForms();
    due("missing", x.lay(0, 0, 1), MISSING);
    due("missing, outside", x.lay(0, -1, 1), MISSING);
    x.row(0, 3);
    due("lay(0, 0, least)", x.lay(0, 0, LEAST), 1);
    due("lay(0, 2, great)", x.lay(0, 2, GREATEST), 1);
    due("get(0, 0)", x.get(0, 0), LEAST);
    due("get(0, 1)", x.get(0, 1), 0);
    due("get(0, 2)", x.get(0, 2), GREATEST);
    due("lay(0, 3, 1)", x.lay(0, 3, 1), OUTSIDE);
    due("lay(0, -1, 1)", x.lay(0, -1, 1), OUTSIDE);
    due("lay(3, 0, 1)", x.lay(3, 0, 1), BAD);
    due("lay(-1, 0, 1)", x.lay(-1, 0, 1), BAD);
    due("another row", x.lay(1, 0, 1), MISSING);
  }

  private static void get() {
    begin("promise 29");
    KillingForms x = new KillingForms();
    due("missing", x.get(1, 0), MISSING);
    x.row(1, 2);
    x.lay(1, 1, -11);
    due("get(1, 1)", x.get(1, 1), -11);
    due("get(1, 0)", x.get(1, 0), 0);
    due("get(1, 2)", x.get(1, 2), OUTSIDE);
    due("get(1, -1)", x.get(1, -1), OUTSIDE);
    due("get(3, 0)", x.get(3, 0), BAD);
    due("get(-1, 0)", x.get(-1, 0), BAD);
  }

  private static void film() {
    begin("promise 30");
    KillingForms x = with("form 1 = 5x2+6xy+7xz+8y2+9yz+10z2");
    due("film(0, 1)", x.film(0, 1), 6);
    for (int i = 0; i < 6; i++) {
      due("get(0, " + i + ")", x.get(0, i), 5 + i);
    }
    due("get(0, 6)", x.get(0, 6), OUTSIDE);
    x.row(1, 40);
    due("film(1, 0)", x.film(1, 0), 1);
    due("get(1, 0)", x.get(1, 0), 0);
    due("get(1, 1)", x.get(1, 1), OUTSIDE);
    x.zero(0, 5);
    due("film(2, 0)", x.film(2, 0), 21);
    due("get(2, 20)", x.get(2, 20), 0);
    due("film(3, 0)", x.film(3, 0), BAD);
    due("film(-1, 0)", x.film(-1, 0), BAD);
    due("film(0, 4)", x.film(0, 4), BAD);
    due("film(0, -1)", x.film(0, -1), BAD);
  }

  private static void judge() {
    begin("promise 31");
    KillingForms x = with("form 1 = x+2y;line 0 = 1 , 1 , 1;line 1 = 5 , 0 , 0;line 5 = 0 , 51 , 0");
    due("missing", x.judge(0, 1), MISSING);
    due("missing, no such register", x.judge(0, 4), BAD);
    x.row(0, 0);
    due("empty", x.judge(0, 1), 100);
    x.row(0, 2);
    x.lay(0, 0, 3);
    due("second otherwise", x.judge(0, 1), 1);
    x.lay(0, 1, 5);
    due("well so far", x.judge(0, 1), 102);
    x.lay(0, 0, 104);
    due("not modulo 101", x.judge(0, 1), 0);
    x.row(1, 6);
    x.lay(1, 0, 3);
    x.lay(1, 1, 5);
    due("last otherwise", x.judge(1, 1), 5);
    x.lay(1, 5, 1);
    due("none otherwise", x.judge(1, 1), -2);
    x.row(2, 7);
    due("first otherwise", x.judge(2, 1), 0);
    x.lay(2, 0, 3);
    x.lay(2, 1, 5);
    x.lay(2, 5, 1);
    due("from 6 on", x.judge(2, 1), 6);
    due("judge(3, 0)", x.judge(3, 0), BAD);
    due("judge(-1, 0)", x.judge(-1, 0), BAD);
    due("judge(0, -1)", x.judge(0, -1), BAD);
  }

  private static void say() {
    begin("promise 32");
    KillingForms x = new KillingForms();
    dueText("0", written(x, 0), "0:0");
    x.put(0, 0, 0, 1);
    dueText("1 of degree 0", written(x, 0), "1:0");
    x.put(0, 0, 0, 100);
    dueText("100", written(x, 0), "100:0");
    readText(x, "form 0 = x+y+z");
    dueText("short ones", written(x, 0), "x+y+z:1");
    x.zero(0, 4);
    dueText("0 of degree 4", written(x, 0), "0:4");
    readText(x, "form 0 = y5-x5+10x2y2z+yz4");
    dueText("a form", written(x, 0), "100x5+10x2y2z+y5+yz4:5");
    due("length", x.say(0, -1), 20);
    due("first", x.say(0, 0), '1');
    due("last", x.say(0, 19), '4');
    due("behind", x.say(0, 20), NOT);
    due("great", x.say(0, GREATEST), NOT);
    due("below", x.say(0, -2), BAD);
    due("say(4, 0)", x.say(4, 0), BAD);
    due("say(-1, 0)", x.say(-1, 0), BAD);
    for (int p = 0; p < 21; p++) {
      int rest = p < 1 ? 0 : p < 3 ? 1 : p < 6 ? 2 : p < 10 ? 3 : p < 15 ? 4 : 5;
      x.put(0, 5 - rest, rest - (p - rest * (rest + 1) / 2), 100);
    }
    due("the longest", x.say(0, -1), longestText().length());
    dueText("the longest", written(x, 0), longestText() + ":5");
  }

  private static String longestText() {
    return "100x5+100x4y+100x4z+100x3y2+100x3yz+100x3z2+100x2y3+100x2y2z+100x2yz2+100x2z3+100xy4+100xy3z+100xy2z2"
        + "+100xyz3+100xz4+100y5+100y4z+100y3z2+100y2z3+100yz4+100z5";
  }

  private static void back() {
    begin("promise 33");
    KillingForms x = new KillingForms();
    due("none", x.back(), STATE);
    x.zero(0, 2);
    x.put(0, 1, 1, 5);
    x.line(1, 1, 2, 3);
    x.power(1, 1, 2);
    x.sum(0, 0, 1, 1);
    x.contract(2, 0, 1);
    x.multiply(3, 0, 1);
    x.adds(0, 1, 9);
    due("eight", x.count(0), 8);
    x.adds(0, 1, 0);
    due("not a step", x.count(0), 8);
    String before = written(x, 3);
    x.zero(3, 1);
    due("the eldest is none", x.count(0), 8);
    due("back", x.back(), 7);
    dueText("register 3", written(x, 3), before);
    due("back of adds", x.back(), 6);
    dueText("register 0", written(x, 0), "x2+7xy+3xz+4y2+6yz+9z2:2");
    due("back of multiply", x.back(), 5);
    dueText("register 3", written(x, 3), "0:0");
    due("back of contract", x.back(), 4);
    due("back of sum", x.back(), 3);
    dueText("register 0", written(x, 0), "5xy:2");
    due("back of power", x.back(), 2);
    dueText("register 1", written(x, 1), "0:0");
    due("back of line", x.back(), 1);
    dueText("line 1", lineText(x, 1), "0,0,0");
    due("back of put", x.back(), 0);
    dueText("register 0", written(x, 0), "0:2");
    due("none", x.back(), STATE);
    dueText("the eldest stands", written(x, 0), "0:2");
    x.zero(0, 2);
    x.line(0, 0, 0, 0);
    due("nothing otherwise", x.back(), STATE);
    x.zero(0, 3);
    due("another degree", x.back(), 0);
    due("degree", x.told(0, 0), 2);
  }

  private static void feed() {
    begin("promise 34");
    KillingForms x = new KillingForms();
    due("feed(32)", x.feed(32), 1);
    due("feed(126)", x.feed(126), 2);
    due("feed(31)", x.feed(31), BAD);
    due("feed(127)", x.feed(127), BAD);
    due("feed(-1)", x.feed(-1), BAD);
    for (int i = 3; i <= 80; i++) {
      due("feed", x.feed('a'), i);
    }
    due("feed", x.feed('a'), FULL);
    due("feed(127) when full", x.feed(127), BAD);
    due("count", x.count(1), 80);
  }

  private static void wipe() {
    begin("promise 35");
    KillingForms x = new KillingForms();
    due("wipe", x.wipe(), 0);
    x.feed('z');
    x.feed('z');
    due("wipe", x.wipe(), 2);
    due("wipe", x.wipe(), 0);
    due("read after wipe", x.read(), -100);
    due("one act", readText(x, "zero 0 1"), 1);
    due("no step by wipe", x.count(0), 1);
  }

  private static void faultAt(String text, int fault) {
    KillingForms x = new KillingForms();
    due("read " + text, readText(x, text), -100 - fault);
    due("empty behind " + text, x.count(1), 0);
    due("nothing done by " + text, x.count(0), 0);
  }

  private static void refusedBehind(String text, int acts) {
    KillingForms x = new KillingForms();
    due("read " + text, readText(x, text), -200 - acts);
    due("empty behind " + text, x.count(1), 0);
  }

  private static void read() {
    begin("promise 36");
    readWell();
    readFaults();
    readRefusals();
  }

  private static void readWell() {
    KillingForms x = new KillingForms();
    due("three acts", readText(x, "line 5 = 1 , 02 , 100;form 3 = x2-100y2;add 3 5 003"), 3);
    dueText("register 3", written(x, 3), "4x2+6xy+98xz+13y2+95yz+3z2:2");
    dueText("line 5", lineText(x, 5), "1,2,100");
    due("steps", x.count(0), 3);
    due("empty", x.count(1), 0);
    due("zero", readText(x, "zero 3 5;zero 3 5"), 2);
    due("one of them a step", x.count(0), 4);
    dueText("register 3", written(x, 3), "0:5");
    due("nine acts", readText(x, "zero 0 1;zero 0 2;zero 0 3;zero 0 4;zero 0 5;zero 1 1;zero 1 2;zero 1 3;zero 1 4"), 9);
    due("eight steps", x.count(0), 8);
    due("a sum", readText(x, "form 0 = 999x3y2-x3y2-102x5+x5-200z5"), 1);
    dueText("register 0", written(x, 0), "89x3y2+2z5:5");
    due("a sum of figures", readText(x, "form 0 = 50+50-3"), 1);
    dueText("register 0", written(x, 0), "97:0");
    due("0", readText(x, "form 0 = 0"), 1);
    dueText("register 0", written(x, 0), "0:0");
    due("0x2", readText(x, "form 0 = 0x2"), 1);
    dueText("register 0", written(x, 0), "0:2");
    due("x-x", readText(x, "form 0 = x-x"), 1);
    dueText("register 0", written(x, 0), "0:1");
    due("101xyz", readText(x, "form 0 = 101xyz+x2z"), 1);
    dueText("register 0", written(x, 0), "x2z:3");
  }

  private static void readFaults() {
    faultAt("", 0);
    faultAt(";", 0);
    faultAt(" zero 0 1", 0);
    faultAt("Zero 0 1", 0);
    faultAt("zer", 0);
    faultAt("lorm 0 = x", 0);
    faultAt("fine 0 = 1 , 2 , 3", 0);
    faultAt("addd 0 0 1", 0);
    faultAt("zer 0 1", 0);
    faultAt("zeros 0 1", 0);
    faultAt("zero", 4);
    faultAt("zero ", 5);
    faultAt("zero0 1", 4);
    faultAt("zero  0 1", 5);
    faultAt("zero 0", 6);
    faultAt("zero 00 1", 6);
    faultAt("zero 0 10", 8);
    faultAt("zero 0 1 ", 8);
    faultAt("zero 0 1;", 9);
    faultAt("zero 0 1;;", 9);
    faultAt("zero 0 1; zero 0 1", 9);
    faultAt("zero 0 1;fo", 9);
    faultAt("zero 0 1;form", 13);
    faultAt("zero 0 1;add 0 0", 16);
    faultAt("zero 0 1;add 0 0 ", 17);
    faultAt("zero 0 1;add 0 0 1000", 20);
    faultAt("add 0 0 x", 8);
    faultAt("add x 0 1", 4);
    faultAt("line 0 = 1 , 2", 14);
    faultAt("line 0 = 1 , 2 , ", 17);
    faultAt("line 0 = 1, 2 , 3", 10);
    faultAt("line 0 = 1 ,2 , 3", 12);
    faultAt("line 0 = 1 , 2 , 3 , 4", 18);
    faultAt("line 0= 1 , 2 , 3", 6);
    faultAt("line 0 =1 , 2 , 3", 8);
    faultAt("line 0 - 1 , 2 , 3", 7);
    faultAt("line 10 = 1 , 2 , 3", 6);
    faultAt("line 0 = 1234 , 2 , 3", 12);
    faultAt("form 0 = ", 9);
    faultAt("form 0 = -x", 9);
    faultAt("form 0 = +x", 9);
    faultAt("form 0 = x+", 11);
    faultAt("form 0 = x + y", 10);
    faultAt("form 0 = x++y", 11);
    faultAt("form 0 = x+;zero 0 1", 11);
    faultAt("form 0 = yx", 10);
    faultAt("form 0 = xx", 10);
    faultAt("form 0 = zy", 10);
    faultAt("form 0 = x1", 10);
    faultAt("form 0 = x0", 10);
    faultAt("form 0 = x6", 10);
    faultAt("form 0 = x22", 11);
    faultAt("form 0 = 1000", 12);
    faultAt("form 0 = 3a", 10);
    faultAt("form 0 = a", 9);
    faultAt("form 0 = x*y", 10);
    // the whole text is looked at first, also behind an act that would be refused
    faultAt("zero 9 1;zero 0", 15);
  }

  private static void readRefusals() {
    refusedBehind("zero 4 1", 0);
    refusedBehind("zero 0 6", 0);
    refusedBehind("add 4 0 1", 0);
    refusedBehind("add 0 6 1", 0);
    refusedBehind("add 0 0 101", 0);
    refusedBehind("line 6 = 0 , 0 , 0", 0);
    refusedBehind("line 0 = 101 , 0 , 0", 0);
    refusedBehind("line 0 = 0 , 101 , 0", 0);
    refusedBehind("line 0 = 0 , 0 , 999", 0);
    refusedBehind("form 4 = x", 0);
    refusedBehind("form 0 = x3y3", 0);
    refusedBehind("form 0 = x5y5z5", 0);
    refusedBehind("form 0 = 0x3y3", 0);
    refusedBehind("form 0 = x2+y", 0);
    refusedBehind("form 0 = 0+x", 0);
    refusedBehind("form 0 = x+0", 0);
    refusedBehind("form 0 = x3y3+x", 0);
    KillingForms x = new KillingForms();
    due("unlike", readText(x, "form 0 = x+y2"), -200);
    due("well behind it", readText(x, "form 0 = x+y"), 1);
    x = new KillingForms();
    due("two done", readText(x, "zero 1 3;form 2 = x;zero 1 6;form 2 = y"), -202);
    due("done ahead", x.told(1, 0), 3);
    dueText("not done behind", written(x, 2), "x:1");
    due("steps", x.count(0), 2);
    due("empty", x.count(1), 0);
    due("back", x.back(), 1);
    dueText("taken back", written(x, 2), "0:0");
  }

  private static void image() {
    begin("promise 37");
    KillingForms x = new KillingForms();
    due("image", x.image(), 0);
    x.zero(0, 5);
    x.zero(3, 2);
    x.store(0, 0, 0, 0);
    due("image", x.image(), 7);
    due("no step", x.count(0), 2);
    x.zero(1, 4);
    due("restore", x.restore(), 7);
    due("as taken last", x.told(0, 0), 5);
  }

  private static void restore() {
    begin("promise 38");
    KillingForms x = with("form 1 = x2+y2;line 4 = 1 , 2 , 3");
    due("none", x.restore(), STATE);
    due("steps stay", x.count(0), 2);
    x.store(2, 1, 1, 4);
    x.row(0, 3);
    x.image();
    x.zero(1, 5);
    x.line(4, 0, 0, 0);
    x.store(2, 1, 0, 1);
    x.store(0, 0, 0, 1);
    x.row(1, 2);
    x.lay(0, 2, 8);
    x.feed('z');
    due("restore", x.restore(), 2);
    dueText("register 1", written(x, 1), "x2+y2:2");
    dueText("line 4", lineText(x, 4), "1,2,3");
    due("holds(2, 1)", x.holds(2, 1), 1);
    due("holds(0, 0)", x.holds(0, 0), NOT);
    due("steps", x.count(0), 0);
    due("back", x.back(), STATE);
    due("the tape stays", x.count(1), 1);
    due("rows stay", x.get(0, 2), 8);
    due("rows stay", x.get(1, 1), 0);
    x.fetch(2, 1, 0);
    dueText("line 0", lineText(x, 0), "1,2,3");
    due("again", x.restore(), 2);
    dueText("line 0", lineText(x, 0), "0,0,0");
    x.zero(3, 0);
    x.line(0, 1, 1, 1);
    x.line(0, 0, 0, 0);
    due("two steps", x.count(0), 2);
    due("nothing otherwise", x.restore(), 2);
    due("no steps all the same", x.count(0), 0);
  }

  private static void count() {
    begin("promise 39");
    KillingForms x = new KillingForms();
    x.zero(0, 1);
    x.line(0, 0, 0, 1);
    x.line(5, 1, 0, 0);
    x.line(3, 1, 0, 0);
    x.line(3, 0, 0, 0);
    x.feed('a');
    x.feed('b');
    x.feed('c');
    x.store(0, 0, 0, 0);
    x.store(1, 3, 1, 0);
    x.store(2, 3, 1, 0);
    x.store(2, 3, 0, 0);
    x.row(0, 0);
    x.row(2, 4);
    x.row(1, 4);
    x.row(1, -1);
    due("count(0)", x.count(0), 5);
    due("count(1)", x.count(1), 3);
    due("count(2)", x.count(2), 3);
    due("count(3)", x.count(3), 2);
    due("count(4)", x.count(4), 2);
    due("count(5)", x.count(5), BAD);
    due("count(-1)", x.count(-1), BAD);
  }
}
