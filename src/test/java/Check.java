/** What the tests share: answers that are due, forms and lines as texts, texts that are fed. */
abstract class Check {
  static final int BAD = -1, NOT = -2, FULL = -3, STATE = -5, MISSING = -11, OUTSIDE = -13, SMALL = -14, NOT_TAKEN = -16;
  static final int LEAST = Integer.MIN_VALUE, GREATEST = Integer.MAX_VALUE;
  static final int[] BELOW_0 = {-1, -2, -101, LEAST};

  private static String about = "";
  private static int wrong = 0;
  private static int wrongBefore = 0;
  private static int begun = 0;
  private static int failed = 0;

  /** What the calls from here on are about: a promise's number, or a sentence of the document. */
  static void begin(String what) {
    close();
    about = what;
    begun++;
  }

  private static void close() {
    if (wrong > wrongBefore) {
      failed++;
    }
    wrongBefore = wrong;
  }

  static void finish(String name) {
    close();
    System.out.println(name + ": " + (begun - failed) + " passed, " + failed + " failed");
    if (failed > 0) {
      System.exit(1);
    }
  }

  static void due(String call, int got, int want) {
    if (got != want) {
      wrong++;
      System.out.println(about + ": " + call + " answered " + got + ", due is " + want);
    }
  }

  static void dueText(String call, String got, String want) {
    if (!got.equals(want)) {
      wrong++;
      System.out.println(about + ": " + call + " answered " + got + ", due is " + want);
    }
  }

  /** A register written, and its degree behind it: 0 of degree 2 is "0:2". */
  static String written(KillingForms x, int r) {
    StringBuilder text = new StringBuilder();
    for (int i = 0; i < x.say(r, -1); i++) {
      text.append((char) x.say(r, i));
    }
    return text.append(':').append(x.told(r, 0)).toString();
  }

  static String lineText(KillingForms x, int k) {
    return x.lineOf(k, 0) + "," + x.lineOf(k, 1) + "," + x.lineOf(k, 2);
  }

  static String rowText(KillingForms x, int row, int size) {
    StringBuilder text = new StringBuilder();
    for (int i = 0; i < size; i++) {
      text.append(i == 0 ? "" : " ").append(x.get(row, i));
    }
    return text.toString();
  }

  static String killerText(KillingForms x, int r, int e, int k) {
    StringBuilder text = new StringBuilder();
    for (int i = 0; i < size(e); i++) {
      text.append(i == 0 ? "" : " ").append(x.killer(r, e, k, i));
    }
    return text.toString();
  }

  static String deepestText(KillingForms x, int r) {
    StringBuilder text = new StringBuilder();
    for (int i = 0; i <= x.deep(r); i++) {
      text.append(i == 0 ? "" : " ").append(x.deepest(r, i));
    }
    return text.toString();
  }

  /** How many monomials of a degree there are. */
  static int size(int degree) {
    return (degree + 1) * (degree + 2) / 2;
  }

  static void feedText(KillingForms x, String text) {
    for (int i = 0; i < text.length(); i++) {
      x.feed(text.charAt(i));
    }
  }

  static int readText(KillingForms x, String text) {
    feedText(x, text);
    return x.read();
  }

  static KillingForms with(String... texts) {
    KillingForms x = new KillingForms();
    for (String text : texts) {
      int done = readText(x, text);
      if (done < 1) {
        wrong++;
        System.out.println(about + ": the text " + text + " answered " + done);
      }
    }
    return x;
  }
}
