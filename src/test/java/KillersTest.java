/** The document's second part, and promises 15 to 23: each sentence that names an edge. */
public final class KillersTest extends Check {
  public static void main(String[] args) {
    asked();
    rank();
    killers();
    killer();
    twoLetters();
    deep();
    firstOperator();
    deepest();
    roots();
    root();
    parted();
    weight();
    tangentRows();
    span();
    tangent();
    lead();
    tally();
    finish("killers");
  }

  private static void asked() {
    begin("What is asked changes nothing");
    String before = all(filled());
    for (int r = -1; r <= 4; r++) {
      KillingForms x = filled();
      for (int i = -2; i <= 6; i++) {
        x.of(r, i, 0);
        x.told(r, i);
        x.value(r, i);
        x.kills(r, i);
        x.rank(r, i);
        x.deepest(r, i);
        x.root(r, i);
        x.weight(r, i);
      }
      dueText("behind of, told, value, kills, rank, deepest, root, weight", all(x), before);
      x = filled();
      for (int i = -2; i <= 6; i++) {
        x.killer(r, i, 0, 0);
        x.killer(r, 2, i, 0);
        x.lead(r, i, 0);
        x.tally(r, i, 1);
        x.say(r, i);
        x.judge(i, r);
        x.deep(i);
      }
      dueText("behind killer, lead, tally, say, judge, deep", all(x), before);
    }
    KillingForms x = filled();
    for (int i = -2; i <= 6; i++) {
      x.tangent(i, 6, 0);
      x.tangent(i, 6, 1);
      x.lineOf(1, i);
      x.holds(0, i);
      x.get(0, i);
      x.count(i);
    }
    dueText("behind tangent, lineOf, holds, get, count", all(x), before);
  }

  private static KillingForms filled() {
    KillingForms x = with("form 0 = x4+2x3y+y4;form 1 = x2-y2;line 1 = 1 , 3 , 0;line 2 = 1 , 4 , 7");
    x.row(0, 3);
    x.image();
    x.zero(3, 2);
    x.store(2, 0, 0, 0);
    x.feed('z');
    return x;
  }

  private static String all(KillingForms x) {
    StringBuilder text = new StringBuilder();
    for (int r = 0; r < 4; r++) {
      text.append(written(x, r)).append(' ');
    }
    for (int k = 0; k < 6; k++) {
      text.append(lineText(x, k)).append(' ');
    }
    for (int what = 0; what < 5; what++) {
      text.append(x.count(what)).append(' ');
    }
    return text.append(rowText(x, 0, 4)).toString();
  }

  private static void rank() {
    begin("RANK of a FORM by e (0 .. d): of the table that has a row for each MONOMIAL of DEGREE e, namely the FORM CONTRACTED by it");
    for (int d = 0; d <= 5; d++) {
      KillingForms x = new KillingForms();
      x.zero(0, d);
      x.put(0, 0, 0, 3);
      for (int e = 0; e <= d; e++) {
        due("rank(0, " + e + ") of 3z" + d, x.rank(0, e), 1);
      }
      due("rank(0, d and 1)", x.rank(0, d + 1), BAD);
      for (int below : BELOW_0) {
        due("rank(0, " + below + ")", x.rank(0, below), BAD);
      }
      due("rank(0, great)", x.rank(0, GREATEST), BAD);
    }
    for (int wrong : new int[] {-1, 4, LEAST, GREATEST}) {
      due("r", new KillingForms().rank(wrong, 0), BAD);
    }
    begin("Hilbert rows");
    dueRanks("xyz", 1, 3, 3, 1);
    dueRanks("x2yz", 1, 3, 4, 3, 1);
    dueRanks("x2y2z", 1, 3, 5, 5, 3, 1);
    dueRanks("x2+yz", 1, 3, 1);
    dueRanks("x5+y5+z5", 1, 3, 3, 3, 3, 1);
    dueRanks("x4y", 1, 2, 2, 2, 2, 1);
    dueRanks("x4y+z5", 1, 3, 3, 3, 3, 1);
    dueRanks("x3y2", 1, 2, 3, 3, 2, 1);
    dueRanks("2", 1);
    // the power of 1, 1, 0 to the 2 has the number 1 at xy, not 2
    dueRanks("x2+xy+y2", 1, 1, 1);
    dueRanks("x2+2xy+y2", 1, 2, 1);
    begin("RANK of a FORM that is 0 everywhere: 0");
    dueRanks("0x", 0, 0);
    dueRanks("0x5", 0, 0, 0, 0, 0, 0);
    dueRanks("0", 0);
    begin("RANK is that of a table modulo 101");
    // 2 times 39 is 52 times 52 modulo 101, and not without it
    dueRanks("2x2+52xy+39y2", 1, 1, 1);
    dueRanks("2x2+52xy+40y2", 1, 2, 1);
  }

  private static void dueRanks(String form, int... ranks) {
    KillingForms x = with("form 2 = " + form);
    for (int e = 0; e < ranks.length; e++) {
      due("rank by " + e + " of " + form, x.rank(2, e), ranks[e]);
      due("killers by " + e + " of " + form, x.killer(2, e, -1, 0), size(e) - ranks[e]);
    }
    due("rank above", x.rank(2, ranks.length), BAD);
  }

  private static void killers() {
    String[] forms = {"0", "7", "0x", "3z", "x+2y+3z", "xy", "x2+y2+z2", "x2+3xy+9y2", "xyz", "x2y+5xz2-y3", "0x4", "x4+2y3z+3xy2z", "x5+y5+z5", "x2yz2-7x3yz"};
    for (String form : forms) {
      KillingForms x = with("form 0 = " + form);
      for (int e = 0; e <= x.told(0, 0); e++) {
        int many = x.killer(0, e, -1, 0);
        begin("as many as there are MONOMIALS of DEGREE e, less RANK: " + form + " by " + e);
        due("killers and rank", many + x.rank(0, e), size(e));
        begin("killer k has 1 at the k-th free one, 0 at the other free ones, and at others so that it kills: " + form + " by " + e);
        dueBasis(form, e, many);
        due("no more", x.killer(0, e, many, 0), NOT);
      }
    }
  }

  // A row depends on rows ahead of it: the free one is the last that is not 0.
  private static void dueBasis(String form, int e, int many) {
    int[] free = new int[many];
    for (int k = 0; k < many; k++) {
      KillingForms x = with("form 0 = " + form);
      x.zero(1, e);
      int place = 0;
      for (int a = e; a >= 0; a--) {
        for (int b = e - a; b >= 0; b--) {
          int number = x.killer(0, e, k, place);
          x.put(1, a, b, number);
          free[k] = number == 0 ? free[k] : place;
          place++;
        }
      }
      due("1 at its own", x.killer(0, e, k, free[k]), 1);
      due("in order", k == 0 || free[k - 1] < free[k] ? 1 : 0, 1);
      due("it kills", x.kills(1, 0), 1);
    }
    KillingForms x = with("form 0 = " + form);
    for (int k = 0; k < Math.min(many, 9); k++) {
      for (int i = 0; i < many; i++) {
        due("0 at the others", x.killer(0, e, k, free[i]), i == k ? 1 : 0);
      }
    }
  }

  private static void killer() {
    begin("killer: the number of the i-th MONOMIAL (i 0 on) in killer k; k -1: how many there are (i does not matter)");
    KillingForms x = with("form 0 = x2+2xy+4y2;form 1 = x2+xy+xz+y2;form 2 = 0x2");
    dueText("by 1", killerText(x, 0, 1, 0), "99 1 0");
    dueText("by 1", killerText(x, 0, 1, 1), "0 0 1");
    for (int i : new int[] {LEAST, -1, 0, 2, 3, GREATEST}) {
      due("killer(0, 1, -1, " + i + ")", x.killer(0, 1, -1, i), 2);
      due("killer(1, 0, -1, " + i + ")", x.killer(1, 0, -1, i), 0);
    }
    String[] alone = {"1 0 0 0 0 0", "0 1 0 0 0 0", "0 0 1 0 0 0", "0 0 0 1 0 0", "0 0 0 0 1 0", "0 0 0 0 0 1"};
    for (int k = 0; k < 6; k++) {
      dueText("of a form 0 everywhere", killerText(x, 2, 2, k), alone[k]);
    }
    begin("killer: BAD: r, e, i, k below -1; NOT: there are not so many");
    due("last place", x.killer(0, 1, 1, 2), 1);
    due("place behind", x.killer(0, 1, 1, 3), BAD);
    due("place ahead", x.killer(0, 1, 1, -1), BAD);
    due("place behind by 0", x.killer(2, 0, 0, 1), BAD);
    due("k behind", x.killer(0, 1, 2, 2), NOT);
    due("k great", x.killer(0, 1, GREATEST, 2), NOT);
    due("none at all", x.killer(1, 0, 0, 0), NOT);
    for (int k : new int[] {-2, -3, LEAST}) {
      due("k below", x.killer(0, 1, k, 0), BAD);
    }
    for (int e : new int[] {-1, 3, LEAST, GREATEST}) {
      due("e", x.killer(0, e, -1, 0), BAD);
      due("e", x.killer(0, e, 0, 0), BAD);
    }
    for (int wrong : new int[] {-1, 4, LEAST, GREATEST}) {
      due("r", x.killer(wrong, 0, -1, 0), BAD);
    }
  }

  private static void twoLetters() {
    begin("TWO LETTERS: a FORM with 0 at all MONOMIALS with z");
    for (int d = 0; d <= 5; d++) {
      for (int a = 0; a <= d; a++) {
        for (int b = 0; a + b <= d; b++) {
          KillingForms x = new KillingForms();
          x.zero(0, d);
          due("0 everywhere", x.told(0, 3), 1);
          x.put(0, a, b, 100);
          boolean isWell = a + b == d;
          due("told 3 of " + written(x, 0), x.told(0, 3), isWell ? 1 : 0);
          due("deep of " + written(x, 0), x.deep(0), isWell ? Math.min(a, b) + 1 : STATE);
          x.put(0, d, 0, 3);
          due("told 3 of " + written(x, 0), x.told(0, 3), isWell || a + b == d ? 1 : 0);
        }
      }
    }
  }

  private static void dueParts(String form, String operator, String roots) {
    KillingForms x = with("form 2 = " + form);
    dueText("deepest of " + form, deepestText(x, 2), operator);
    StringBuilder text = new StringBuilder();
    for (int i = 0; i < x.root(2, -1); i++) {
      text.append(i == 0 ? "" : " ").append(x.root(2, i));
    }
    dueText("roots of " + form, text.toString(), roots);
    due("no more roots of " + form, x.root(2, x.root(2, -1)), NOT);
    due("no more of the operator of " + form, x.deepest(2, x.deep(2) + 1), BAD);
  }

  private static void deep() {
    begin("DEEP of such one (not 0 everywhere): the least e (0 .. d and 1; by d and 1 all OPERATORS kill)");
    String[] forms = {"5", "1", "x", "x-y", "x2", "xy", "x2+y2", "x3", "x2y", "xy2", "x3+y3", "x2y2", "x3y", "x4", "x4+y4", "x5", "x4y", "x3y2", "x5+y5", "x5+x2y3+y5", "x4+x2y2+3y4"};
    int[] deep = {1, 1, 1, 1, 1, 2, 2, 1, 2, 2, 2, 3, 2, 1, 2, 1, 2, 3, 2, 3, 3};
    for (int i = 0; i < forms.length; i++) {
      due("deep of " + forms[i], with("form 2 = " + forms[i]).deep(2), deep[i]);
    }
    begin("some OPERATOR of DEGREE e in x and y alone: z, that kills all of these, is none");
    KillingForms x = with("form 0 = xy;form 1 = z");
    due("z kills", x.kills(1, 0), 1);
    due("deep", x.deep(0), 2);
    begin("deep: BAD; STATE: it is not in TWO LETTERS, is 0 everywhere");
    for (int wrong : new int[] {-1, 4, LEAST, GREATEST}) {
      due("r", x.deep(wrong), BAD);
    }
    for (String form : new String[] {"z", "x+z", "xz", "x2+yz", "x5+y5+z5", "x5+y4z", "0", "0x", "0x2", "0x5", "x-x", "z-z"}) {
      due("deep of " + form, with("form 2 = " + form).deep(2), STATE);
    }
  }

  private static void firstOperator() {
    begin("of all those that have 1 at the first place at which they are not 0, the one for which that place is the earliest");
    dueParts("x", "0 1", "0");
    dueParts("y", "1 0", "101");
    dueParts("x+2y", "1 50", "2");
    dueParts("x4y", "0 0 1", "0");
    dueParts("xy4", "1 0 0", "101");
    dueParts("x5+y5", "0 1 0", "0 101");
    begin("of these the one with the least numbers, place by place");
    // by degree 1 all operators kill a number: x alone is the first of x, x+y, x+2y, .. and y
    dueParts("5", "1 0", "101");
    // x2 and any number times y2 kill it
    dueParts("xy", "1 0 0", "101");
    dueParts("x2+y2", "1 0 100", "1 100");
    // x2-xy and any number times y2: with 0 it has two roots
    dueParts("x2+xy", "1 100 0", "1 101");
    // x2 and any number times xy-y2: with 0 it has one root
    dueParts("xy+y2", "1 0 0", "101");
    dueParts("x2y2", "1 0 0 0", "101");
  }

  private static void deepest() {
    begin("deepest: BAD: r, i (below 0; above DEEP, if there is one); STATE: as of deep()");
    KillingForms x = with("form 0 = x2y2;form 1 = 0x2;form 2 = z2;form 3 = 9");
    due("at DEEP", x.deepest(0, 3), 0);
    due("above DEEP", x.deepest(0, 4), BAD);
    due("at DEEP above the degree", x.deepest(3, 1), 0);
    due("above DEEP above the degree", x.deepest(3, 2), BAD);
    due("great", x.deepest(0, GREATEST), BAD);
    for (int below : BELOW_0) {
      due("below", x.deepest(0, below), BAD);
      due("below, 0 everywhere", x.deepest(1, below), BAD);
      due("below, not in two letters", x.deepest(2, below), BAD);
    }
    for (int wrong : new int[] {-1, 4, LEAST, GREATEST}) {
      due("r", x.deepest(wrong, 0), BAD);
    }
    begin("deepest() without DEEP: STATE by any i from 0 on");
    for (int i : new int[] {0, 1, 2, 3, 4, 7, 100, GREATEST}) {
      due("0 everywhere", x.deepest(1, i), STATE);
      due("not in two letters", x.deepest(2, i), STATE);
    }
  }

  private static void roots() {
    begin("ROOTS of that: LINES (1, t, 0) for t 0 .. 100, then (0, 1, 0), at which its VALUE is 0, in this order");
    for (int t = 0; t <= 100; t++) {
      KillingForms x = new KillingForms();
      x.line(0, 1, t, 0);
      x.power(0, 0, 3);
      due("roots of the power of 1, " + t + ", 0", x.root(0, -1), 1);
      due("root of the power of 1, " + t + ", 0", x.root(0, 0), t);
      due("its weight", x.weight(0, 0), 1);
    }
    dueParts("y3", "1 0", "101");
    KillingForms x = with("line 0 = 0 , 1 , 0;line 1 = 1 , 100 , 0;line 2 = 1 , 0 , 0", "zero 0 5;add 0 0 1;add 0 1 2;add 0 2 3");
    due("three", x.root(0, -1), 3);
    due("t 0 is first", x.root(0, 0), 0);
    due("t 100 is behind it", x.root(0, 1), 100);
    due("0, 1, 0 is last", x.root(0, 2), 101);
    begin("ROOTS: a root that is there twice is one, and there may be none");
    dueParts("x3y", "0 0 1", "0");
    dueParts("2x3+4xy2", "1 0 50", "");
    // a line and its multiples are one root
    x = with("line 0 = 2 , 4 , 0", "zero 0 3;add 0 0 1");
    due("root of 2, 4, 0", x.root(0, 0), 2);
    due("weight of 1, 2, 0", x.weight(0, 0), 8);
  }

  private static void root() {
    begin("root: i -1 how many; else t of the i-th. BAD: r, i below -1; STATE: as of deep(); NOT: there are not so many");
    KillingForms x = with("form 0 = x4+y4;form 1 = 0x2;form 2 = z2;form 3 = 9");
    due("how many", x.root(0, -1), 2);
    due("first", x.root(0, 0), 0);
    due("second", x.root(0, 1), 101);
    for (int i : new int[] {2, 3, 101, GREATEST}) {
      due("root(0, " + i + ")", x.root(0, i), NOT);
      due("of 0 everywhere", x.root(1, i), STATE);
      due("not in two letters", x.root(2, i), STATE);
    }
    due("of 0 everywhere", x.root(1, -1), STATE);
    due("not in two letters", x.root(2, -1), STATE);
    due("of degree 0", x.root(3, -1), 1);
    due("of degree 0", x.root(3, 0), 101);
    due("of degree 0", x.root(3, 1), NOT);
    for (int below : new int[] {-2, -3, LEAST}) {
      due("below", x.root(0, below), BAD);
      due("below, 0 everywhere", x.root(1, below), BAD);
    }
    for (int wrong : new int[] {-1, 4, LEAST, GREATEST}) {
      due("r", x.root(wrong, -1), BAD);
    }
  }

  private static void parted() {
    begin("PARTED, if there are as many ROOTS as DEEP: WEIGHTS by which all POWERS of these to the d, each times its WEIGHT, are the FORM");
    for (int d = 1; d <= 5; d++) {
      for (int many = 1; many <= Math.min(3, (d + 1) / 2); many++) {
        KillingForms x = with("line 0 = 1 , 100 , 0;line 1 = 1 , 5 , 0;line 2 = 0 , 1 , 0");
        x.zero(0, d);
        for (int k = 0; k < many; k++) {
          x.adds(0, k, 100 - k);
        }
        int[] due = many == 1 ? new int[] {100} : new int[] {99, 100, 98};
        due("deep", x.deep(0), many);
        due("roots", x.root(0, -1), many);
        for (int i = 0; i < many; i++) {
          due("weight " + i + " of " + many + " by degree " + d, x.weight(0, i), due[i]);
        }
        due("no more", x.weight(0, many), NOT);
      }
    }
    begin("STATE: it is not PARTED");
    for (String form : new String[] {"x4y", "xy4", "xy", "x2y2", "xy+y2", "2x3+4xy2", "x3y2"}) {
      KillingForms x = with("form 2 = " + form);
      due("weight of " + form, x.weight(2, 0), STATE);
      due("weight of " + form, x.weight(2, 9), STATE);
      due("roots are fewer", x.root(2, -1) < x.deep(2) ? 1 : 0, 1);
    }
    begin("STATE: DEEP is above d");
    for (String form : new String[] {"1", "7", "100"}) {
      KillingForms x = with("form 2 = " + form);
      due("as many roots as deep", x.root(2, -1), x.deep(2));
      due("weight of " + form, x.weight(2, 0), STATE);
      due("weight of " + form, x.weight(2, 1), STATE);
    }
    begin("PARTED by the operator with the least numbers, where there are several");
    KillingForms x = with("form 2 = x2+xy");
    due("weight of 1, 1, 0", x.weight(2, 0), 1);
    due("weight of 0, 1, 0", x.weight(2, 1), 100);
  }

  private static void weight() {
    begin("weight: BAD: r, i below 0; STATE: as of deep(), as told; NOT: there are not so many");
    KillingForms x = with("form 0 = 3x4+44y4;form 1 = 0x2;form 2 = z2;form 3 = x4y");
    due("first", x.weight(0, 0), 3);
    due("last", x.weight(0, 1), 44);
    for (int i : new int[] {2, 3, 101, GREATEST}) {
      due("behind", x.weight(0, i), NOT);
      due("of 0 everywhere", x.weight(1, i), STATE);
      due("not in two letters", x.weight(2, i), STATE);
      due("not parted", x.weight(3, i), STATE);
    }
    for (int below : BELOW_0) {
      due("below", x.weight(0, below), BAD);
      due("below, 0 everywhere", x.weight(1, below), BAD);
      due("below, not parted", x.weight(3, below), BAD);
    }
    for (int wrong : new int[] {-1, 4, LEAST, GREATEST}) {
      due("r", x.weight(wrong, 0), BAD);
    }
  }

  private static void tangentRows() {
    begin("TANGENT by d: the number of a MONOMIAL is a times u to the (a less 1), v to the b, w to the c multiplied (0, if a is 0)");
    // of 1, 0, 0 by d: x to the d, x to the (d less 1) times y, and times z
    for (int d = 1; d <= 5; d++) {
      KillingForms x = with("line 0 = 1 , 0 , 0;line 1 = 0 , 1 , 0;line 2 = 0 , 0 , 1;line 3 = 1 , 1 , 0");
      for (int k = 0; k < 4; k++) {
        due("one line by " + d, x.tangent(d, 1 << k, 0), 3);
      }
      int[] two = {0, 3, 5, 6, 6, 6};
      int[] three = {0, 3, 6, 9, 9, 9};
      due("two lines by " + d, x.tangent(d, 3, 0), two[d]);
      due("two lines by " + d, x.tangent(d, 5, 0), two[d]);
      due("two lines by " + d, x.tangent(d, 6, 0), two[d]);
      due("three lines by " + d, x.tangent(d, 7, 0), three[d]);
    }
    begin("TANGENT of LINES that are 0, 0, 0: rows of 0 (by d 1 the rows are 1 at x, y, z)");
    KillingForms x = with("line 0 = 1 , 2 , 3");
    due("by 1", x.tangent(1, 2, 0), 3);
    due("by 1", x.tangent(1, 62, 0), 3);
    for (int d = 2; d <= 5; d++) {
      due("by " + d, x.tangent(d, 2, 0), 0);
      due("by " + d, x.tangent(d, 62, 0), 0);
      due("beside another by " + d, x.tangent(d, 3, 0), 3);
    }
  }

  private static void span() {
    begin("SPAN: how many of the rows are independent; EXPECTED: the lesser of three times how many LINES, and how many MONOMIALS");
    KillingForms x = with("line 0 = 1 , 0 , 0;line 1 = 0 , 1 , 0;line 2 = 0 , 0 , 1", "line 3 = 1 , 1 , 1;line 4 = 1 , 2 , 5;line 5 = 1 , 7 , 3");
    int[][] spans = {{}, {3, 3, 3, 3, 3, 3}, {3, 5, 6, 6, 6, 6}, {3, 6, 9, 10, 10, 10}, {3, 6, 9, 12, 14, 15}, {3, 6, 9, 12, 15, 18}};
    int[][] expected = {{}, {3, 3, 3, 3, 3, 3}, {3, 6, 6, 6, 6, 6}, {3, 6, 9, 10, 10, 10}, {3, 6, 9, 12, 15, 15}, {3, 6, 9, 12, 15, 18}};
    for (int d = 1; d <= 5; d++) {
      for (int many = 1; many <= 6; many++) {
        due("span of " + many + " by " + d, x.tangent(d, (1 << many) - 1, 0), spans[d][many - 1]);
        due("expected of " + many + " by " + d, x.tangent(d, (1 << many) - 1, 1), expected[d][many - 1]);
      }
      due("expected of lines 1, 3, 5", x.tangent(d, 42, 1), Math.min(9, size(d)));
    }
    begin("SPAN: a LINE twice, and its multiple, span no more");
    x = with("line 0 = 1 , 2 , 3;line 1 = 1 , 2 , 3;line 2 = 2 , 4 , 6");
    due("twice", x.tangent(4, 3, 0), 3);
    due("thrice", x.tangent(4, 7, 0), 3);
    due("expected all the same", x.tangent(4, 7, 1), 9);
    begin("SPAN, EXPECTED of no LINES (bits 0): 0");
    for (int d = 1; d <= 5; d++) {
      due("span by " + d, x.tangent(d, 0, 0), 0);
      due("expected by " + d, x.tangent(d, 0, 1), 0);
    }
  }

  private static void tangent() {
    begin("tangent: BAD: d, lines, what");
    KillingForms x = new KillingForms();
    due("all lines", x.tangent(5, 63, 0), 0);
    due("all lines", x.tangent(1, 63, 1), 3);
    for (int wrong : new int[] {0, -1, 6, LEAST, GREATEST}) {
      due("d", x.tangent(wrong, 1, 0), BAD);
      due("d", x.tangent(wrong, 0, 1), BAD);
    }
    for (int wrong : new int[] {-1, 64, 65, LEAST, GREATEST}) {
      due("lines", x.tangent(1, wrong, 0), BAD);
      due("lines", x.tangent(1, wrong, 1), BAD);
    }
    for (int wrong : new int[] {-1, 2, LEAST, GREATEST}) {
      due("what", x.tangent(1, 1, wrong), BAD);
    }
  }

  private static void lead() {
    begin("LEAD of a FORM: its MONOMIALS with numbers that are not 0, the greatest number first, of like ones by MONOMIALS' numbers");
    KillingForms x = with("form 0 = 5x2+100xy+5xz+5yz+z2;form 1 = 0x3;form 2 = 8");
    int[] places = {11, 20, 10, 1, 0};
    int[] numbers = {100, 5, 5, 5, 1};
    for (int k = 0; k < 5; k++) {
      due("lead(0, " + k + ", 0)", x.lead(0, k, 0), places[k]);
      due("lead(0, " + k + ", 1)", x.lead(0, k, 1), numbers[k]);
    }
    begin("LEAD (what 0): ten times a, and b");
    for (int a = 0; a <= 5; a++) {
      for (int b = 0; a + b <= 5; b++) {
        x.zero(3, 5);
        x.put(3, a, b, 1);
        due("lead of " + a + ", " + b, x.lead(3, 0, 0), 10 * a + b);
      }
    }
    due("of degree 0", x.lead(2, 0, 0), 0);
    due("of degree 0", x.lead(2, 0, 1), 8);
    begin("lead: BAD: r, k below 0, what; NOT: there are not so many");
    for (int k : new int[] {5, 6, GREATEST}) {
      due("k", x.lead(0, k, 0), NOT);
      due("k", x.lead(0, k, 1), NOT);
    }
    due("of 0 everywhere", x.lead(1, 0, 0), NOT);
    for (int below : BELOW_0) {
      due("k below", x.lead(0, below, 0), BAD);
    }
    for (int wrong : new int[] {-1, 2, LEAST, GREATEST}) {
      due("what", x.lead(0, 0, wrong), BAD);
      due("what", x.lead(0, 5, wrong), BAD);
    }
    for (int wrong : new int[] {-1, 4, LEAST, GREATEST}) {
      due("r", x.lead(wrong, 0, 0), BAD);
    }
  }

  private static void tally() {
    begin("TALLY: how many MONOMIALS have a number v, v by v: unlike numbers (0, too), the greatest first");
    KillingForms x = with("form 0 = 5x2+100xy+5xz+5yz+z2;form 1 = 0x3;form 2 = 8;form 3 = x+y+z");
    int[] numbers = {100, 5, 1, 0};
    int[] many = {1, 3, 1, 1};
    for (int k = 0; k < 4; k++) {
      due("tally(0, " + k + ", 0)", x.tally(0, k, 0), numbers[k]);
      due("tally(0, " + k + ", 1)", x.tally(0, k, 1), many[k]);
    }
    due("0 everywhere", x.tally(1, -1, 0), 1);
    due("0 everywhere", x.tally(1, 0, 0), 0);
    due("0 everywhere", x.tally(1, 0, 1), 10);
    due("0 everywhere", x.tally(1, 1, 0), NOT);
    due("degree 0", x.tally(2, 0, 0), 8);
    due("degree 0", x.tally(2, -1, 0), 1);
    due("0 nowhere", x.tally(3, -1, 0), 1);
    due("0 nowhere", x.tally(3, 0, 1), 3);
    x.zero(1, 5);
    for (int place = 0; place < 21; place++) {
      int[] powers = powersOf(place);
      x.put(1, powers[0], powers[1], 100 - place);
    }
    due("all unlike", x.tally(1, -1, 0), 21);
    due("the greatest", x.tally(1, 0, 0), 100);
    due("the least", x.tally(1, 20, 0), 80);
    due("no more", x.tally(1, 21, 0), NOT);
    begin("tally: k -1: how many unlike ones (what does not matter). BAD: r, k below -1, what; NOT: there are not so many");
    for (int what : new int[] {LEAST, -1, 0, 1, 2, GREATEST}) {
      due("tally(0, -1, " + what + ")", x.tally(0, -1, what), 4);
    }
    for (int k : new int[] {4, 5, GREATEST}) {
      due("k", x.tally(0, k, 0), NOT);
      due("k", x.tally(0, k, 1), NOT);
    }
    for (int k : new int[] {-2, -3, LEAST}) {
      due("k below", x.tally(0, k, 0), BAD);
    }
    for (int wrong : new int[] {-1, 2, LEAST, GREATEST}) {
      due("what", x.tally(0, 0, wrong), BAD);
      due("what", x.tally(0, 4, wrong), BAD);
    }
    for (int wrong : new int[] {-1, 4, LEAST, GREATEST}) {
      due("r", x.tally(wrong, -1, 0), BAD);
    }
  }

  private static int[] powersOf(int place) {
    int left = place;
    for (int a = 5; a >= 0; a--) {
      if (left <= 5 - a) {
        return new int[] {a, 5 - a - left};
      }
      left -= 6 - a;
    }
    return new int[] {0, 0};
  }
}
