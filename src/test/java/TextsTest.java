/** What is written, the tape, and texts that are read, and promises 32, 34 to 36: each sentence that names an edge. */
public final class TextsTest extends Check {
  private static final String WELL = "form 0 = 12x2yz+y4-3z4;line 1 = 1 , 20 , 100;add 0 1 5;zero 1 4";

  public static void main(String[] args) {
    written();
    say();
    tape();
    feed();
    wipe();
    acts();
    figures();
    blanks();
    terms();
    degrees();
    faultBytes();
    faultWords();
    faultEnds();
    refused();
    refusedBehindOthers();
    faultFirst();
    emptyTape();
    finish("texts");
  }

  private static void written() {
    begin("WRITTEN: the number (no 1, but of DEGREE 0), then letters x, y, z, each with its power behind it (no 1; letters of power 0 not at all)");
    for (int d = 0; d <= 5; d++) {
      for (int a = 0; a <= d; a++) {
        for (int b = 0; a + b <= d; b++) {
          KillingForms x = new KillingForms();
          x.zero(0, d);
          for (int number : new int[] {1, 2, 9, 10, 11, 99, 100}) {
            x.put(0, a, b, number);
            String letters = letter("x", a) + letter("y", b) + letter("z", d - a - b);
            dueText("put " + number, written(x, 0), (number == 1 && d > 0 ? "" : "" + number) + letters + ":" + d);
          }
        }
      }
    }
    begin("TERMS of a FORM by MONOMIALS' numbers, those with numbers that are not 0, with + between");
    KillingForms x = with("form 0 = z2-y2+0x2+7xz-8xy");
    dueText("a form", written(x, 0), "93xy+7xz+100y2+z2:2");
    x.zero(1, 5);
    for (int a = 0; a <= 5; a++) {
      for (int b = 0; a + b <= 5; b++) {
        x.put(1, a, b, 1);
      }
    }
    String allOnce = "x5+x4y+x4z+x3y2+x3yz+x3z2+x2y3+x2y2z+x2yz2+x2z3+xy4+xy3z+xy2z2+xyz3+xz4+y5+y4z+y3z2+y2z3+yz4+z5";
    dueText("all 1", written(x, 1), allOnce + ":5");
    due("behind its last", x.say(1, allOnce.length()), NOT);
    begin("0 alone, if there are none");
    for (int d = 0; d <= 5; d++) {
      x = new KillingForms();
      x.zero(0, d);
      due("bytes", x.say(0, -1), 1);
      due("the byte", x.say(0, 0), '0');
      due("behind it", x.say(0, 1), NOT);
    }
  }

  private static String letter(String letter, int power) {
    return power == 0 ? "" : power == 1 ? letter : letter + power;
  }

  private static void say() {
    begin("say: i -1: how many it has. BAD: r, i below -1; NOT: it has not so many");
    KillingForms x = with("form 3 = 10x+y");
    due("length", x.say(3, -1), 5);
    String text = "10x+y";
    for (int i = 0; i < 5; i++) {
      due("say(3, " + i + ")", x.say(3, i), text.charAt(i));
    }
    for (int i : new int[] {5, 6, GREATEST}) {
      due("behind", x.say(3, i), NOT);
    }
    for (int i : new int[] {-2, -3, LEAST}) {
      due("below", x.say(3, i), BAD);
    }
    for (int wrong : new int[] {-1, 4, LEAST, GREATEST}) {
      due("r", x.say(wrong, -1), BAD);
      due("r", x.say(wrong, 0), BAD);
    }
  }

  private static void tape() {
    begin("THE TAPE holds 0 .. 80 bytes 32 .. 126");
    for (int first : new int[] {32, 79}) {
      KillingForms x = new KillingForms();
      for (int letter = first; letter <= Math.min(first + 79, 126); letter++) {
        due("feed(" + letter + ")", x.feed(letter), letter - first + 1);
      }
    }
    KillingForms x = new KillingForms();
    for (int wrong : new int[] {31, 127, 10, 9, 0, -1, 128, 160, 255, 256 + 'x', LEAST, GREATEST}) {
      due("feed(" + wrong + ")", x.feed(wrong), BAD);
    }
    due("none of these", x.count(1), 0);
    String longest = "form 0 = x" + "+x".repeat(35);
    due("a text of 80 bytes", longest.length(), 80);
    due("is read", readText(x, longest), 1);
    dueText("register 0", written(x, 0), "36x:1");
    String cut = longest.substring(0, 79);
    due("cut off", readText(x, cut), -100 - 79);
    due("a fault at the last place of 80", readText(x, cut + "!"), -100 - 79);
    due("that ends too early with 80", readText(x, "form 0 = xy" + "+x".repeat(34) + "+"), -100 - 80);
  }

  private static void feed() {
    begin("feed: how many it has. BAD; FULL: it has 80");
    KillingForms x = new KillingForms();
    for (int i = 1; i <= 80; i++) {
      due("feed", x.feed(126), i);
    }
    due("full", x.feed(32), FULL);
    due("full still", x.feed(126), FULL);
    due("BAD ahead of FULL", x.feed(127), BAD);
    due("BAD ahead of FULL", x.feed(31), BAD);
    due("bytes", x.count(1), 80);
    due("wipe", x.wipe(), 80);
    due("not full", x.feed('z'), 1);
    x = new KillingForms();
    feedText(x, " ".repeat(80));
    due("read", x.read(), -100);
    due("not full", x.feed('z'), 1);
  }

  private static void wipe() {
    begin("wipe: THE TAPE is empty: how many it had");
    KillingForms x = new KillingForms();
    due("wipe", x.wipe(), 0);
    due("feed", x.feed('q'), 1);
    due("wipe", x.wipe(), 1);
    due("bytes", x.count(1), 0);
    due("nothing of it is read", readText(x, "zero 0 3"), 1);
    feedText(x, "zero 0 5");
    due("wipe", x.wipe(), 8);
    due("read", x.read(), -100);
    due("degree", x.told(0, 0), 3);
  }

  private static void dueRead(String text, int want) {
    due("read " + text, readText(new KillingForms(), text), want);
  }

  private static void dueForm(String sum, String want) {
    KillingForms x = new KillingForms();
    x.zero(3, 4);
    due("form 3 = " + sum, readText(x, "form 3 = " + sum), 1);
    dueText("form 3 = " + sum, written(x, 3), want);
  }

  private static void acts() {
    begin("A TEXT: ACTS, one or more, parted by ;");
    dueRead("", -100);
    dueRead(";", -100);
    dueRead("zero 0 1", 1);
    dueRead(";zero 0 1", -100);
    dueRead("zero 0 1;", -109);
    dueRead("zero 0 1;;zero 0 1", -109);
    dueRead("zero 0 1,zero 0 1", -108);
    dueRead("zero 0 1zero 0 1", -108);
    String nine = "zero 0 0" + ";zero 0 0".repeat(8);
    due("nine acts are 80 bytes", nine.length(), 80);
    dueRead(nine, 9);
    for (int many = 1; many <= 9; many++) {
      dueRead(nine.substring(0, 9 * many - 1), many);
    }
    begin("form R = SUM; line K = N , N , N; add R K N; zero R D");
    KillingForms x = with(WELL);
    dueText("register 1", written(x, 1), "0:4");
    dueText("line 1", lineText(x, 1), "1,20,100");
    due("register 0 of y4", x.of(0, 0, 4), (1 + 5 * (400 % 101) * (400 % 101)) % 101);
    due("register 0 of z4", x.of(0, 0, 0), -3 + 5);
    begin("add R K N in a TEXT is as adds(); zero R D as zero()");
    for (int r = 0; r < 4; r++) {
      for (int k = 0; k < 6; k++) {
        KillingForms read = with("line " + k + " = " + (k + 1) + " , 2 , 50;form " + r + " = x2+yz;add " + r + " " + k + " 100");
        KillingForms called = new KillingForms();
        called.line(k, k + 1, 2, 50);
        called.zero(r, 2);
        called.put(r, 2, 0, 1);
        called.put(r, 0, 1, 1);
        called.adds(r, k, 100);
        dueText("add " + r + " " + k + " 100", written(read, r), written(called, r));
        due("zero " + r + " " + k, readText(read, "zero " + r + " " + k), k <= 5 ? 1 : -200);
        dueText("zero " + r + " " + k, written(read, r), "0:" + k);
      }
    }
  }

  private static void figures() {
    begin("R, K, D: a figure; N: 1 to 3 figures");
    dueRead("line 0 = 0 , 00 , 000", 1);
    dueRead("line 0 = 7 , 07 , 007", 1);
    dueRead("line 5 = 100 , 100 , 100", 1);
    dueRead("line 00 = 0 , 0 , 0", -106);
    dueRead("line  = 0 , 0 , 0", -105);
    dueRead("line x = 0 , 0 , 0", -105);
    dueRead("line 0 = 0000 , 0 , 0", -112);
    dueRead("line 0 = 0 , 0000 , 0", -116);
    dueRead("line 0 = 0 , 0 , 0000", -120);
    dueRead("line 0 =  , 0 , 0", -109);
    dueRead("line 0 = -1 , 0 , 0", -109);
    dueRead("line 0 = +1 , 0 , 0", -109);
    dueRead("add 0 0 1", 1);
    dueRead("add 0 0 001", 1);
    dueRead("add 0 0 0001", -111);
    dueRead("add 00 0 1", -105);
    dueRead("add 0 00 1", -107);
    dueRead("add 0 0 -1", -108);
    dueRead("zero 0 5", 1);
    dueRead("zero 0 05", -108);
    dueRead("zero 00 5", -106);
    dueRead("zero 0 -1", -107);
    dueRead("zero 0 x", -107);
    dueRead("form 00 = x", -106);
    dueRead("form / = x", -105);
    dueRead("form : = x", -105);
    KillingForms x = with("line 2 = 007 , 070 , 7");
    dueText("line 2", lineText(x, 2), "7,70,7");
  }

  private static void blanks() {
    begin("words and numbers with one blank between where blanks stand here; none else");
    dueFaultOfBlanks("form 0 = x2-3yz");
    dueFaultOfBlanks("line 0 = 1 , 2 , 100");
    dueFaultOfBlanks("add 0 0 100");
    dueFaultOfBlanks("zero 0 1");
    dueFaultOfBlanks("zero 0 1;zero 1 2");
    begin("line K = N , N , N: one blank ahead of and behind each comma");
    dueRead("line 0 = 1 , 2 , 3", 1);
    dueRead("line 0 = 1, 2 , 3", -110);
    dueRead("line 0 = 1 ,2 , 3", -112);
    dueRead("line 0 = 1 , 2, 3", -114);
    dueRead("line 0 = 1 , 2 ,3", -116);
    dueRead("line 0 = 1  , 2 , 3", -111);
    dueRead("line 0 = 1 ,  2 , 3", -113);
    dueRead("line 0 = 1 , 2  , 3", -115);
    dueRead("line 0 = 1 , 2 ,  3", -117);
    // behind a figure the blank ahead of the comma is well, and what is behind it is not
    dueRead("line 0 = 1 , 2 0 , 100", -115);
    dueRead("line 0 = 1 , 20 , 1 00", -119);
  }

  // A blank too many is a fault where it stands, or behind the one that is due there; in a word, where that begins.
  private static void dueFaultOfBlanks(String text) {
    for (int i = 0; i <= text.length(); i++) {
      boolean isBlank = i < text.length() && text.charAt(i) == ' ';
      int begins = text.lastIndexOf(';', i - 1) + 1;
      boolean isInWord = i > begins && i < text.indexOf(' ', begins);
      dueRead(text.substring(0, i) + " " + text.substring(i), -100 - (isInWord ? begins : isBlank ? i + 1 : i));
      if (isBlank) {
        dueRead(text.substring(0, i) + text.substring(i + 1), -100 - i);
      }
    }
  }

  private static void terms() {
    begin("SUM: 0, or TERMS with + or - between: 1 to 3 figures, or none (1), then letters x, y, z, in this order, each once at most");
    dueForm("x", "x:1");
    dueForm("z", "z:1");
    dueForm("xyz", "xyz:3");
    dueForm("x-y", "x+100y:1");
    dueForm("1x", "x:1");
    dueForm("01x", "x:1");
    dueForm("001x", "x:1");
    dueForm("1", "1:0");
    dueForm("12", "12:0");
    dueForm("123", "22:0");
    dueForm("50x+060y+7z", "50x+60y+7z:1");
    dueRead("form 0 = 1234", -112);
    dueRead("form 0 = 1234x", -112);
    dueRead("form 0 = 1 x", -110);
    dueRead("form 0 = yx", -110);
    dueRead("form 0 = zx", -110);
    dueRead("form 0 = zy", -110);
    dueRead("form 0 = x2y2x", -113);
    dueRead("form 0 = xx", -110);
    dueRead("form 0 = yy", -110);
    dueRead("form 0 = zz", -110);
    dueRead("form 0 = x2x", -111);
    dueRead("form 0 = x3z2z", -113);
    dueRead("form 0 = w", -109);
    dueRead("form 0 = X", -109);
    dueRead("form 0 = +x", -109);
    dueRead("form 0 = -x", -109);
    dueRead("form 0 = -0", -109);
    dueRead("form 0 = ;zero 0 1", -109);
    dueRead("form 0 = x+-y", -111);
    dueRead("form 0 = x--y", -111);
    dueRead("form 0 = x*y", -110);
    dueRead("form 0 = x,y", -110);
    dueRead("form 0 = (x)", -109);
    begin("each with one figure 2 .. 5 behind it, or none (1)");
    String[] letters = {"x", "y", "z"};
    for (String letter : letters) {
      for (int power = 2; power <= 5; power++) {
        dueForm(letter + power, letter + power + ":" + power);
        dueRead("form 0 = " + letter + power + "2", -111);
      }
      for (String wrong : new String[] {"0", "1", "6", "7", "9"}) {
        dueRead("form 0 = " + letter + wrong, -110);
      }
    }
    dueForm("x2y2z", "x2y2z:5");
    dueForm("3x2y3", "3x2y3:5");
    begin("one letter at least, or figures alone");
    dueForm("999", "90:0");
    dueRead("form 0 = x+", -111);
    dueRead("form 0 = x+;zero 0 1", -111);
    dueRead("form 0 = 5+", -111);
    begin("Numbers of TERMS are modulo 101, TERMS of one MONOMIAL together");
    dueForm("101x", "0:1");
    dueForm("102x", "x:1");
    dueForm("999x", "90x:1");
    dueForm("x-999x", "12x:1");
    dueForm("100x+100x+100x", "98x:1");
    dueForm("100x+1x", "0:1");
    dueForm("x2+y2+x2-y2+x2", "3x2:2");
    dueForm("xyz-2xyz", "100xyz:3");
    dueForm("50+51+7", "7:0");
    dueForm("7-8", "100:0");
    begin("SUM 0 in a TEXT: DEGREE 0, its number 0");
    dueForm("0", "0:0");
    dueForm("00", "0:0");
    dueForm("000", "0:0");
    dueForm("0+0", "0:0");
    dueForm("0-1", "100:0");
    dueForm("101", "0:0");
  }

  private static void degrees() {
    begin("A TERM in a TEXT has the DEGREE of its letters, also with the number 0 (0x2: DEGREE 2; figures alone: 0, so 0+x is refused; x-x: DEGREE 1)");
    dueForm("0x2", "0:2");
    dueForm("0x5", "0:5");
    dueForm("000xyz", "0:3");
    dueForm("0x2+yz", "yz:2");
    dueForm("x-x", "0:1");
    dueForm("x5-x5", "0:5");
    dueForm("x5+0z5", "x5:5");
    dueRead("form 0 = 0+x", -200);
    dueRead("form 0 = x+0", -200);
    dueRead("form 0 = x-0", -200);
    dueRead("form 0 = 101+x", -200);
    dueRead("form 0 = x+0x2", -200);
    dueRead("form 0 = 0x+0x2", -200);
    dueRead("form 0 = x-x+x2", -200);
    begin("a SUM whose TERMS are of unlike DEGREES, or above 5");
    dueForm("x5", "x5:5");
    dueForm("x4z", "x4z:5");
    dueForm("xy2z2", "xy2z2:5");
    dueRead("form 0 = x5y", -200);
    dueRead("form 0 = xy5", -200);
    dueRead("form 0 = x2y2z2", -200);
    dueRead("form 0 = x5y5z5", -200);
    dueRead("form 0 = 0x5z", -200);
    dueRead("form 0 = 101x5z", -200);
    dueRead("form 0 = x5z-x5z", -200);
    dueRead("form 0 = x5z+x", -200);
    dueRead("form 0 = x+x5z", -200);
    dueRead("form 0 = x4y+x5z", -200);
    dueRead("form 0 = x+y+z+1", -200);
    dueRead("form 0 = x+y+z2", -200);
    dueRead("form 0 = x2+y+z2", -200);
  }

  private static void faultBytes() {
    begin("FAULT: the first byte with which no such text goes on");
    due("the text", readText(new KillingForms(), WELL), 4);
    for (int i = 0; i < WELL.length(); i++) {
      for (char wrong : new char[] {'!', 'X', '~', '.'}) {
        int begins = WELL.lastIndexOf(';', i) + 1;
        int blank = WELL.indexOf(' ', begins);
        int fault = i < blank && i >= begins ? begins : i;
        dueRead(WELL.substring(0, i) + wrong + WELL.substring(i + 1), -100 - fault);
        dueRead(WELL.substring(0, i) + wrong, -100 - fault);
      }
    }
    dueRead(WELL + "!", -100 - WELL.length());
    dueRead(WELL + " ", -100 - WELL.length());
    dueRead(WELL + "0", -100 - WELL.length());
  }

  private static void faultWords() {
    begin("of a word that is none of these, also one that the end of the text cuts off, where it begins");
    for (String word : new String[] {"f", "fo", "for", "l", "li", "lin", "a", "ad", "z", "ze", "zer", "x", "forms", "lines", "adds", "zeros",
        "put", "fine", "lorm", "aero", "formline", "eform", "ffform", "adda"}) {
      dueRead(word, -100);
      dueRead(word + " 0 0 1", -100);
      dueRead(word + " 0 = x", -100);
      dueRead("zero 0 1;" + word, -109);
      dueRead("zero 0 1;" + word + " 0 1", -109);
    }
    for (String word : new String[] {"Form", "FORM", "1", "=", " form", "+"}) {
      dueRead(word + " 0 = x", -100);
      dueRead("zero 0 1;" + word + " 0 = x", -109);
    }
    begin("a word that is one of these, with what can't be behind it");
    dueRead("form0 = x", -104);
    dueRead("form;", -104);
    dueRead("form=", -104);
    dueRead("line0 = 1 , 2 , 3", -104);
    dueRead("add0 0 1", -103);
    dueRead("zero0 1", -104);
    dueRead("zero 0 1;add,", -112);
  }

  private static void faultEnds() {
    begin("or the length, if it ends too early");
    dueEnds("form 0 = 12x2+y2", 0, 0, 0, 0, 4, 5, 6, 7, 8, 9, -1, -1, -1, -1, 14, -200, -1);
    dueEnds("line 0 = 12 , 3 , 4", 0, 0, 0, 0, 4, 5, 6, 7, 8, 9, 10, 11, 12, 13, 14, 15, 16, 17, 18, -1);
    dueEnds("add 0 0 12", 0, 0, 0, 3, 4, 5, 6, 7, 8, -1, -1);
    dueEnds("zero 0 1;zero 1 2", 0, 0, 0, 0, 4, 5, 6, 7, -1, 9, 9, 9, 9, 13, 14, 15, 16, -2);
  }

  /** For each beginning of the text where its fault is; -1, -2: so many acts; -200: refused. */
  private static void dueEnds(String text, int... ends) {
    due("ends of " + text, ends.length, text.length() + 1);
    for (int i = 0; i <= text.length(); i++) {
      dueRead(text.substring(0, i), ends[i] == -200 ? -200 : ends[i] < 0 ? -ends[i] : -100 - ends[i]);
    }
  }

  private static void refused() {
    begin("An ACT refused: no such R (4 on), K (6 on), D above 5; N above 100");
    for (int figure = 0; figure <= 9; figure++) {
      dueRead("form " + figure + " = x", figure <= 3 ? 1 : -200);
      dueRead("line " + figure + " = 1 , 2 , 3", figure <= 5 ? 1 : -200);
      dueRead("add " + figure + " 0 1", figure <= 3 ? 1 : -200);
      dueRead("add 0 " + figure + " 1", figure <= 5 ? 1 : -200);
      dueRead("zero " + figure + " 1", figure <= 3 ? 1 : -200);
      dueRead("zero 0 " + figure, figure <= 5 ? 1 : -200);
    }
    for (int number : new int[] {0, 1, 99, 100, 101, 102, 200, 999}) {
      int want = number <= 100 ? 1 : -200;
      dueRead("line 0 = " + number + " , 0 , 0", want);
      dueRead("line 0 = 0 , " + number + " , 0", want);
      dueRead("line 0 = 0 , 0 , " + number, want);
      dueRead("add 0 0 " + number, want);
      dueRead("form 0 = " + number, 1);
    }
    KillingForms x = with("form 0 = x2;line 0 = 1 , 2 , 3");
    for (String text : new String[] {"form 4 = y", "form 0 = x+y2", "form 0 = x3y3", "line 6 = 0 , 0 , 0", "line 0 = 101 , 0 , 0", "add 4 0 1", "add 0 6 1",
        "add 0 0 101", "zero 4 0", "zero 0 6", "form 0 = 0+x"}) {
      due("read " + text, readText(x, text), -200);
    }
    dueText("nothing changes", written(x, 0), "x2:2");
    dueText("nothing changes", lineText(x, 0), "1,2,3");
    due("no steps", x.count(0), 2);
  }

  private static void refusedBehindOthers() {
    begin("-200 less the number of ACTS ahead of it: those ahead are done, those behind are not");
    for (int ahead = 0; ahead <= 8; ahead++) {
      StringBuilder text = new StringBuilder();
      for (int i = 0; i < 9; i++) {
        text.append(i == 0 ? "" : ";").append("zero ").append(i == ahead ? 4 : i % 4).append(' ').append(i % 5 + 1);
      }
      KillingForms x = new KillingForms();
      due("read " + text, readText(x, text.toString()), -200 - ahead);
      int[] degrees = new int[4];
      for (int i = 0; i < ahead; i++) {
        degrees[i % 4] = i % 5 + 1;
      }
      for (int r = 0; r < 4; r++) {
        due("register " + r + " with " + ahead + " ahead", x.told(r, 0), degrees[r]);
      }
      due("empty", x.count(1), 0);
    }
    begin("ACTS that are done ahead of a refused one are STEPS");
    KillingForms x = new KillingForms();
    due("read", readText(x, "zero 0 1;zero 0 1;line 0 = 1 , 1 , 1;zero 9 9;zero 0 2"), -203);
    due("steps", x.count(0), 2);
    due("back", x.back(), 1);
    dueText("line 0", lineText(x, 0), "0,0,0");
    due("back", x.back(), 0);
    dueText("register 0", written(x, 0), "0:0");
    begin("of several refused ACTS the first");
    dueRead("zero 0 1;zero 4 1;zero 0 6;form 0 = x+1", -201);
  }

  private static void faultFirst() {
    begin("The whole text is looked at for a FAULT ahead of the first ACT");
    for (String text : new String[] {"zero 0 1;zero", "zero 0 1;!", "zero 0 1;zero 0 1;zer", "form 0 = x;form 0 = ", "line 0 = 1 , 1 , 1;line 1"}) {
      KillingForms x = new KillingForms();
      readText(x, text);
      due("nothing is done by " + text, x.count(0), 0);
      due("nothing is done by " + text, x.told(0, 0), 0);
    }
    begin("read(): FAULT, then -200 less the ACTS");
    dueRead("zero 9 1;zero", -113);
    dueRead("form 0 = x+1;zer", -113);
    dueRead("form 0 = x9", -110);
    dueRead("line 9 = 999 , 1 , 1;add 9 9 999;", -133);
    dueRead("zero 9 9;zero 0 1;x", -118);
  }

  private static void emptyTape() {
    begin("THE TAPE is empty behind each call that reads it, by a FAULT and by all that is refused behind its text, too");
    KillingForms x = new KillingForms();
    for (String text : new String[] {"", "zero 0 1", "zero 0 1;zero 0 2", "zero", "zero 0 1;", "!", "zero 4 1", "zero 0 1;zero 4 1", "form 0 = x+1"}) {
      readText(x, text);
      due("behind " + text, x.count(1), 0);
      due("nothing to wipe", x.wipe(), 0);
    }
    due("read of what is empty", x.read(), -100);
    due("well behind it", readText(x, "zero 0 5"), 1);
    due("degree", x.told(0, 0), 5);
  }
}
