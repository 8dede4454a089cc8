import java.util.ArrayDeque;
import java.util.ArrayList;
import java.util.Arrays;
import java.util.Collections;
import java.util.HashMap;
import java.util.List;
import java.util.Map;
import java.util.TreeMap;
import java.util.regex.Matcher;
import java.util.regex.Pattern;

/**
 * The document once more, in another way: forms as maps from powers to numbers, operators and weights
 * found by trying all, texts by a pattern, steps by keeping all registers and lines.
 */
final class Model {
  static final int BAD = -1, NOT = -2, FULL = -3, STATE = -5, MISSING = -11, OUTSIDE = -13, SMALL = -14, NOT_TAKEN = -16;
  private static final int P = 101;

  private static final String TERM = "(?:[0-9]{1,3}(?:x[2-5]?)?(?:y[2-5]?)?(?:z[2-5]?)?"
      + "|x[2-5]?(?:y[2-5]?)?(?:z[2-5]?)?|y[2-5]?(?:z[2-5]?)?|z[2-5]?)";
  private static final String N = "[0-9]{1,3}";
  private static final String ACT = "(?:form [0-9] = " + TERM + "(?:[+-]" + TERM + ")*|line [0-9] = " + N + " , " + N + " , " + N
      + "|add [0-9] [0-9] " + N + "|zero [0-9] [0-9])";
  private static final Pattern TEXT = Pattern.compile(ACT + "(?:;" + ACT + ")*");
  private static final Pattern ONE_TERM = Pattern.compile("([+-]?)([0-9]{0,3})(?:(x)([2-5]?))?(?:(y)([2-5]?))?(?:(z)([2-5]?))?");

  /** Powers of x, y, z are the key, as text; numbers that are 0 are left out. */
  private record Poly(int degree, Map<String, Integer> numbers) {
    int at(int a, int b, int c) {
      return numbers.getOrDefault(a + " " + b + " " + c, 0);
    }

    Poly with(int a, int b, int c, int v) {
      Map<String, Integer> next = new HashMap<>(numbers);
      if (v == 0) {
        next.remove(a + " " + b + " " + c);
      } else {
        next.put(a + " " + b + " " + c, v);
      }
      return new Poly(degree, next);
    }

    Poly plus(int a, int b, int c, long v) {
      return with(a, b, c, (int) Math.floorMod(at(a, b, c) + v, (long) P));
    }
  }

  private record Bench(List<Poly> registers, List<List<Integer>> lines) {
  }

  private record Image(Bench bench, List<Object> held) {
  }

  private List<Poly> registers = new ArrayList<>();
  private List<List<Integer>> lines = new ArrayList<>();
  private List<Object> held = new ArrayList<>(Collections.nCopies(12, null));
  private final ArrayDeque<Bench> steps = new ArrayDeque<>();
  private final List<List<Integer>> rows = new ArrayList<>(Arrays.asList(null, null, null));
  private StringBuilder tape = new StringBuilder();
  private Image image = null;

  Model() {
    for (int r = 0; r < 4; r++) {
      registers.add(nothing(0));
    }
    for (int k = 0; k < 6; k++) {
      lines.add(List.of(0, 0, 0));
    }
  }

  private static Poly nothing(int d) {
    return new Poly(d, Map.of());
  }

  private static List<int[]> monomials(int d) {
    List<int[]> all = new ArrayList<>();
    for (int a = d; a >= 0; a--) {
      for (int b = d - a; b >= 0; b--) {
        all.add(new int[] {a, b, d - a - b});
      }
    }
    return all;
  }

  private static int pow(int u, int e) {
    return e == 0 ? 1 : u * pow(u, e - 1) % P;
  }

  private static Poly powerOf(List<Integer> line, int d) {
    Poly form = nothing(d);
    for (int[] m : monomials(d)) {
      form = form.with(m[0], m[1], m[2], pow(line.get(0), m[0]) * pow(line.get(1), m[1]) % P * pow(line.get(2), m[2]) % P);
    }
    return form;
  }

  private static Poly together(Poly one, Poly other, int v) {
    Poly form = one;
    for (int[] m : monomials(one.degree)) {
      form = form.plus(m[0], m[1], m[2], (long) other.at(m[0], m[1], m[2]) * v);
    }
    return form;
  }

  private static Poly contracted(Poly operator, Poly form) {
    Poly left = nothing(form.degree - operator.degree);
    for (int[] p : monomials(operator.degree)) {
      for (int[] m : monomials(left.degree)) {
        long v = (long) operator.at(p[0], p[1], p[2]) * form.at(m[0] + p[0], m[1] + p[1], m[2] + p[2]);
        left = left.plus(m[0], m[1], m[2], v);
      }
    }
    return left;
  }

  private boolean reg(int r) {
    return r >= 0 && r < 4;
  }

  private boolean lin(int k) {
    return k >= 0 && k < 6;
  }

  private boolean num(int v) {
    return v >= 0 && v < P;
  }

  private void setRegister(int r, Poly form) {
    if (!registers.get(r).equals(form)) {
      keepStep();
      registers = new ArrayList<>(registers);
      registers.set(r, form);
    }
  }

  private void setLine(int k, List<Integer> line) {
    if (!lines.get(k).equals(line)) {
      keepStep();
      lines = new ArrayList<>(lines);
      lines.set(k, line);
    }
  }

  private void keepStep() {
    steps.addLast(new Bench(registers, lines));
    if (steps.size() > 8) {
      steps.removeFirst();
    }
  }

  int zero(int r, int d) {
    if (!reg(r) || d < 0 || d > 5) {
      return BAD;
    }
    int was = registers.get(r).degree;
    setRegister(r, nothing(d));
    return was;
  }

  private boolean powers(int r, long a, long b) {
    return a >= 0 && b >= 0 && a + b <= registers.get(r).degree;
  }

  int put(int r, int a, int b, int v) {
    if (!reg(r) || !powers(r, a, b) || !num(v)) {
      return BAD;
    }
    Poly form = registers.get(r);
    int c = form.degree - a - b;
    setRegister(r, form.with(a, b, c, v));
    return form.at(a, b, c);
  }

  int of(int r, int a, int b) {
    if (!reg(r) || !powers(r, a, b)) {
      return BAD;
    }
    return registers.get(r).at(a, b, registers.get(r).degree - a - b);
  }

  private static boolean twoLetters(Poly form) {
    return form.numbers.keySet().stream().allMatch(key -> key.endsWith(" 0"));
  }

  int told(int r, int what) {
    if (!reg(r) || what < 0 || what > 3) {
      return BAD;
    }
    Poly form = registers.get(r);
    return what == 0 ? form.degree : what == 1 ? monomials(form.degree).size() : what == 2 ? form.numbers.size() : twoLetters(form) ? 1 : 0;
  }

  int sum(int r, int s, int t, int v) {
    if (!reg(r) || !reg(s) || !reg(t) || !num(v)) {
      return BAD;
    }
    if (registers.get(s).degree != registers.get(t).degree) {
      return STATE;
    }
    setRegister(r, together(registers.get(s), registers.get(t), v));
    return registers.get(r).degree;
  }

  int contract(int r, int s, int t) {
    if (!reg(r) || !reg(s) || !reg(t)) {
      return BAD;
    }
    if (registers.get(s).degree > registers.get(t).degree) {
      return STATE;
    }
    setRegister(r, contracted(registers.get(s), registers.get(t)));
    return registers.get(r).degree;
  }

  int multiply(int r, int s, int t) {
    if (!reg(r) || !reg(s) || !reg(t)) {
      return BAD;
    }
    Poly one = registers.get(s);
    Poly other = registers.get(t);
    if (one.degree + other.degree > 5) {
      return STATE;
    }
    Poly form = nothing(one.degree + other.degree);
    for (int[] p : monomials(one.degree)) {
      for (int[] q : monomials(other.degree)) {
        form = form.plus(p[0] + q[0], p[1] + q[1], p[2] + q[2], (long) one.at(p[0], p[1], p[2]) * other.at(q[0], q[1], q[2]));
      }
    }
    setRegister(r, form);
    return form.degree;
  }

  int line(int k, int u, int v, int w) {
    if (!lin(k) || !num(u) || !num(v) || !num(w)) {
      return BAD;
    }
    setLine(k, List.of(u, v, w));
    return 1;
  }

  int lineOf(int k, int i) {
    return lin(k) && i >= 0 && i < 3 ? lines.get(k).get(i) : BAD;
  }

  int power(int r, int k, int d) {
    if (!reg(r) || !lin(k) || d < 0 || d > 5) {
      return BAD;
    }
    setRegister(r, powerOf(lines.get(k), d));
    return d;
  }

  int adds(int r, int k, int v) {
    if (!reg(r) || !lin(k) || !num(v)) {
      return BAD;
    }
    int d = registers.get(r).degree;
    setRegister(r, together(registers.get(r), powerOf(lines.get(k), d), v));
    return d;
  }

  private static int valueAt(Poly form, List<Integer> line) {
    int all = 0;
    Poly power = powerOf(line, form.degree);
    for (int[] m : monomials(form.degree)) {
      all += form.at(m[0], m[1], m[2]) * power.at(m[0], m[1], m[2]);
    }
    return all % P;
  }

  int value(int r, int k) {
    return reg(r) && lin(k) ? valueAt(registers.get(r), lines.get(k)) : BAD;
  }

  int kills(int s, int t) {
    if (!reg(s) || !reg(t)) {
      return BAD;
    }
    if (registers.get(s).degree > registers.get(t).degree) {
      return STATE;
    }
    return contracted(registers.get(s), registers.get(t)).numbers.isEmpty() ? 1 : 0;
  }

  /** Rows that come one by one: each is told by the independent ones ahead of it, or is one more of these. */
  private static final class Span {
    // each: a row that is reduced, and how it comes of the rows that were given
    private final List<int[]> reduced = new ArrayList<>();
    private final List<int[]> ways = new ArrayList<>();
    private int given = 0;

    /** The numbers by which the rows given so far, this one with 1, come to 0; or null, if it is independent. */
    int[] add(int[] row, int most) {
      int[] left = row.clone();
      int[] way = new int[most];
      way[given] = 1;
      given++;
      for (int i = 0; i < reduced.size(); i++) {
        int place = first(reduced.get(i));
        int times = left[place] * pow(reduced.get(i)[place], P - 2) % P;
        take(left, reduced.get(i), times);
        take(way, ways.get(i), times);
      }
      if (first(left) < 0) {
        return way;
      }
      reduced.add(left);
      ways.add(way);
      return null;
    }

    private static void take(int[] from, int[] row, int times) {
      for (int j = 0; j < from.length; j++) {
        from[j] = Math.floorMod(from[j] - row[j] * times, P);
      }
    }

    private static int first(int[] row) {
      for (int j = 0; j < row.length; j++) {
        if (row[j] != 0) {
          return j;
        }
      }
      return -1;
    }
  }

  private static List<int[]> killers(Poly form, int e) {
    List<int[]> found = new ArrayList<>();
    List<int[]> all = monomials(e);
    Span span = new Span();
    for (int[] p : all) {
      List<int[]> left = monomials(form.degree - e);
      int[] row = new int[left.size()];
      for (int j = 0; j < row.length; j++) {
        row[j] = form.at(left.get(j)[0] + p[0], left.get(j)[1] + p[1], left.get(j)[2] + p[2]);
      }
      int[] way = span.add(row, all.size());
      if (way != null) {
        found.add(way);
      }
    }
    return found;
  }

  int rank(int r, int e) {
    if (!reg(r) || e < 0 || e > registers.get(r).degree) {
      return BAD;
    }
    return monomials(e).size() - killers(registers.get(r), e).size();
  }

  int killer(int r, int e, int k, int i) {
    if (!reg(r) || e < 0 || e > registers.get(r).degree || k < -1) {
      return BAD;
    }
    if (k >= 0 && (i < 0 || i >= monomials(e).size())) {
      return BAD;
    }
    List<int[]> all = killers(registers.get(r), e);
    return k == -1 ? all.size() : k < all.size() ? all.get(k)[i] : NOT;
  }

  /** The first operator that kills, found by trying all in their order; null without. */
  private static int[] deepestOf(Poly form) {
    if (!twoLetters(form) || form.numbers.isEmpty()) {
      return null;
    }
    int d = form.degree;
    int[] f = new int[d + 1];
    for (int b = 0; b <= d; b++) {
      f[b] = form.at(d - b, b, 0);
    }
    for (int e = 0; e <= d + 1; e++) {
      for (int first = 0; first <= e; first++) {
        long ways = 1;
        for (int i = first; i < e; i++) {
          ways *= P;
        }
        for (long way = 0; way < ways; way++) {
          int[] g = new int[e + 1];
          long rest = way;
          for (int i = e; i > first; i--) {
            g[i] = (int) (rest % P);
            rest /= P;
          }
          g[first] = 1;
          if (killsAll(g, f)) {
            return g;
          }
        }
      }
    }
    return null;
  }

  private static boolean killsAll(int[] g, int[] f) {
    for (int j = 0; j + g.length <= f.length; j++) {
      int all = 0;
      for (int i = 0; i < g.length; i++) {
        all += g[i] * f[i + j];
      }
      if (all % P != 0) {
        return false;
      }
    }
    return true;
  }

  int deep(int r) {
    if (!reg(r)) {
      return BAD;
    }
    int[] g = deepestOf(registers.get(r));
    return g == null ? STATE : g.length - 1;
  }

  int deepest(int r, int i) {
    if (!reg(r) || i < 0) {
      return BAD;
    }
    int[] g = deepestOf(registers.get(r));
    return g == null ? STATE : i < g.length ? g[i] : BAD;
  }

  private static List<Integer> rootsOf(int[] g) {
    List<Integer> roots = new ArrayList<>();
    for (int t = 0; t <= P; t++) {
      List<Integer> line = t < P ? List.of(1, t, 0) : List.of(0, 1, 0);
      Poly operator = nothing(g.length - 1);
      int all = 0;
      for (int i = 0; i < g.length; i++) {
        all += g[i] * pow(line.get(0), operator.degree - i) % P * pow(line.get(1), i);
      }
      if (all % P == 0) {
        roots.add(t);
      }
    }
    return roots;
  }

  int root(int r, int i) {
    if (!reg(r) || i < -1) {
      return BAD;
    }
    int[] g = deepestOf(registers.get(r));
    if (g == null) {
      return STATE;
    }
    List<Integer> roots = rootsOf(g);
    return i == -1 ? roots.size() : i < roots.size() ? roots.get(i) : NOT;
  }

  int weight(int r, int i) {
    if (!reg(r) || i < 0) {
      return BAD;
    }
    Poly form = registers.get(r);
    int[] g = deepestOf(form);
    if (g == null) {
      return STATE;
    }
    List<Integer> roots = rootsOf(g);
    if (roots.size() != g.length - 1 || g.length - 1 > form.degree) {
      return STATE;
    }
    return i < roots.size() ? weightsOf(form, roots)[i] : NOT;
  }

  /** By trying all. */
  private static int[] weightsOf(Poly form, List<Integer> roots) {
    int d = form.degree;
    int[][] powers = new int[roots.size()][d + 1];
    for (int k = 0; k < powers.length; k++) {
      Poly power = powerOf(roots.get(k) < P ? List.of(1, roots.get(k), 0) : List.of(0, 1, 0), d);
      for (int b = 0; b <= d; b++) {
        powers[k][b] = power.at(d - b, b, 0);
      }
    }
    int[] f = new int[d + 1];
    for (int b = 0; b <= d; b++) {
      f[b] = form.at(d - b, b, 0);
    }
    int[] weights = new int[roots.size()];
    while (true) {
      boolean well = true;
      for (int b = 0; b <= d && well; b++) {
        int all = 0;
        for (int k = 0; k < weights.length; k++) {
          all += weights[k] * powers[k][b];
        }
        well = all % P == f[b];
      }
      if (well) {
        return weights;
      }
      int k = 0;
      while (k < weights.length && weights[k] == P - 1) {
        weights[k] = 0;
        k++;
      }
      if (k == weights.length) {
        throw new IllegalStateException("no weights");
      }
      weights[k]++;
    }
  }

  int tangent(int d, int bits, int what) {
    if (d < 1 || d > 5 || bits < 0 || bits > 63 || what < 0 || what > 1) {
      return BAD;
    }
    List<int[]> all = monomials(d);
    Span span = new Span();
    int independent = 0;
    int rowsGiven = 0;
    for (int k = 0; k < 6; k++) {
      if ((bits & 1 << k) != 0) {
        for (int letter = 0; letter < 3; letter++) {
          int[] row = new int[all.size()];
          for (int j = 0; j < row.length; j++) {
            row[j] = slope(lines.get(k), letter, all.get(j));
          }
          rowsGiven++;
          if (span.add(row, 18) == null) {
            independent++;
          }
        }
      }
    }
    return what == 0 ? independent : Math.min(rowsGiven, all.size());
  }

  private static int slope(List<Integer> line, int letter, int[] m) {
    int[] powers = m.clone();
    if (powers[letter] == 0) {
      return 0;
    }
    powers[letter]--;
    return m[letter] * pow(line.get(0), powers[0]) % P * pow(line.get(1), powers[1]) % P * pow(line.get(2), powers[2]) % P;
  }

  int lead(int r, int k, int what) {
    if (!reg(r) || k < 0 || what < 0 || what > 1) {
      return BAD;
    }
    Poly form = registers.get(r);
    List<int[]> all = new ArrayList<>();
    for (int[] m : monomials(form.degree)) {
      int v = form.at(m[0], m[1], m[2]);
      if (v != 0) {
        all.add(new int[] {v, 10 * m[0] + m[1]});
      }
    }
    all.sort((one, other) -> other[0] - one[0]);
    return k < all.size() ? all.get(k)[what == 0 ? 1 : 0] : NOT;
  }

  int tally(int r, int k, int what) {
    if (!reg(r) || k < -1 || (k != -1 && (what < 0 || what > 1))) {
      return BAD;
    }
    Poly form = registers.get(r);
    TreeMap<Integer, Integer> many = new TreeMap<>(Collections.reverseOrder());
    for (int[] m : monomials(form.degree)) {
      many.merge(form.at(m[0], m[1], m[2]), 1, Integer::sum);
    }
    if (k == -1) {
      return many.size();
    }
    if (k >= many.size()) {
      return NOT;
    }
    int v = new ArrayList<>(many.keySet()).get(k);
    return what == 0 ? v : many.get(v);
  }

  int store(int rack, int i, int kind, int k) {
    if (rack < 0 || rack > 2 || (kind != 0 && kind != 1) || !(kind == 0 ? reg(k) : lin(k))) {
      return BAD;
    }
    if (i < 0 || i > 3) {
      return OUTSIDE;
    }
    if (rack != 2 && rack != kind) {
      return NOT_TAKEN;
    }
    held.set(rack * 4 + i, kind == 0 ? registers.get(k) : lines.get(k));
    return 1;
  }

  int holds(int rack, int i) {
    if (rack < 0 || rack > 2) {
      return BAD;
    }
    if (i < 0 || i > 3) {
      return OUTSIDE;
    }
    Object thing = held.get(rack * 4 + i);
    return thing == null ? NOT : thing instanceof Poly ? 0 : 1;
  }

  @SuppressWarnings("unchecked")
  int fetch(int rack, int i, int k) {
    int kind = holds(rack, i);
    if (kind < 0) {
      return kind;
    }
    if (!(kind == 0 ? reg(k) : lin(k))) {
      return BAD;
    }
    Object thing = held.get(rack * 4 + i);
    if (kind == 0) {
      setRegister(k, (Poly) thing);
    } else {
      setLine(k, (List<Integer>) thing);
    }
    return kind;
  }

  int row(int row, int n) {
    if (row < 0 || row > 2 || n > 40) {
      return BAD;
    }
    if (n < -1) {
      return SMALL;
    }
    rows.set(row, n == -1 ? null : new ArrayList<>(Collections.nCopies(n, 0)));
    return 1;
  }

  int lay(int row, int i, int v) {
    int was = refusal(row, i);
    if (was == 0) {
      rows.get(row).set(i, v);
      return 1;
    }
    return was;
  }

  private int refusal(int row, int i) {
    if (row < 0 || row > 2) {
      return BAD;
    }
    return rows.get(row) == null ? MISSING : i < 0 || i >= rows.get(row).size() ? OUTSIDE : 0;
  }

  int get(int row, int i) {
    int was = refusal(row, i);
    return was == 0 ? rows.get(row).get(i) : was;
  }

  int film(int row, int r) {
    if (row < 0 || row > 2 || !reg(r)) {
      return BAD;
    }
    List<Integer> numbers = new ArrayList<>();
    for (int[] m : monomials(registers.get(r).degree)) {
      numbers.add(registers.get(r).at(m[0], m[1], m[2]));
    }
    rows.set(row, numbers);
    return numbers.size();
  }

  int judge(int row, int r) {
    if (row < 0 || row > 2 || !reg(r)) {
      return BAD;
    }
    if (rows.get(row) == null) {
      return MISSING;
    }
    List<Integer> tale = rows.get(row);
    for (int i = 0; i < tale.size(); i++) {
      if (i >= 6 || tale.get(i) != valueAt(registers.get(r), lines.get(i))) {
        return i;
      }
    }
    return tale.size() == 6 ? NOT : 100 + tale.size();
  }

  private static String written(Poly form) {
    List<String> terms = new ArrayList<>();
    for (int[] m : monomials(form.degree)) {
      int v = form.at(m[0], m[1], m[2]);
      if (v != 0) {
        StringBuilder term = new StringBuilder(v == 1 && form.degree > 0 ? "" : Integer.toString(v));
        for (int letter = 0; letter < 3; letter++) {
          term.append(m[letter] == 0 ? "" : m[letter] == 1 ? "" + "xyz".charAt(letter) : "" + "xyz".charAt(letter) + m[letter]);
        }
        terms.add(term.toString());
      }
    }
    return terms.isEmpty() ? "0" : String.join("+", terms);
  }

  int say(int r, int i) {
    if (!reg(r) || i < -1) {
      return BAD;
    }
    String text = written(registers.get(r));
    return i == -1 ? text.length() : i < text.length() ? text.charAt(i) : NOT;
  }

  int back() {
    if (steps.isEmpty()) {
      return STATE;
    }
    Bench before = steps.removeLast();
    registers = before.registers;
    lines = before.lines;
    return steps.size();
  }

  int feed(int letter) {
    if (letter < 32 || letter > 126) {
      return BAD;
    }
    if (tape.length() == 80) {
      return FULL;
    }
    tape.append((char) letter);
    return tape.length();
  }

  int wipe() {
    int had = tape.length();
    tape = new StringBuilder();
    return had;
  }

  private static boolean goesOn(String text) {
    Matcher matcher = TEXT.matcher(text);
    return matcher.matches() || matcher.hitEnd();
  }

  /** Where no text goes on, or -1. */
  static int faultOf(String text) {
    if (TEXT.matcher(text).matches()) {
      return -1;
    }
    int well = 0;
    while (well < text.length() && goesOn(text.substring(0, well + 1))) {
      well++;
    }
    int begin = text.lastIndexOf(';', Math.max(well - 1, 0)) + 1;
    if (well == 0) {
      begin = 0;
    }
    Matcher word = Pattern.compile("[a-z]*").matcher(text.substring(begin));
    word.lookingAt();
    boolean known = List.of("form", "line", "add", "zero").contains(word.group());
    return !known && well <= begin + word.group().length() ? begin : well;
  }

  int read() {
    String text = tape.toString();
    wipe();
    int fault = faultOf(text);
    if (fault >= 0) {
      return -100 - fault;
    }
    String[] acts = text.split(";");
    for (int i = 0; i < acts.length; i++) {
      if (act(acts[i]) < 0) {
        return -200 - i;
      }
    }
    return acts.length;
  }

  private int act(String text) {
    String[] words = text.split("[ =,]+");
    int first = Integer.parseInt(words[1]);
    int second = words[0].equals("form") ? 0 : Integer.parseInt(words[2]);
    switch (words[0]) {
      case "form":
        return form(first, words[2]);
      case "line":
        return line(first, second, Integer.parseInt(words[3]), Integer.parseInt(words[4]));
      case "add":
        return adds(first, second, Integer.parseInt(words[3]));
      default:
        return zero(first, second);
    }
  }

  private int form(int r, String sum) {
    Poly form = null;
    for (String term : sum.split("(?=[+-])")) {
      Matcher parts = ONE_TERM.matcher(term);
      if (!parts.matches()) {
        throw new IllegalStateException(term);
      }
      int[] m = new int[3];
      for (int letter = 0; letter < 3; letter++) {
        String power = parts.group(4 + 2 * letter);
        m[letter] = parts.group(3 + 2 * letter) == null ? 0 : power.isEmpty() ? 1 : Integer.parseInt(power);
      }
      int degree = m[0] + m[1] + m[2];
      if (degree > 5 || (form != null && form.degree != degree)) {
        return BAD;
      }
      form = form == null ? nothing(degree) : form;
      int v = parts.group(2).isEmpty() ? 1 : Integer.parseInt(parts.group(2));
      form = form.plus(m[0], m[1], m[2], parts.group(1).equals("-") ? -v : v);
    }
    if (!reg(r)) {
      return BAD;
    }
    setRegister(r, form);
    return 1;
  }

  private int degrees() {
    return registers.stream().mapToInt(Poly::degree).sum();
  }

  int image() {
    image = new Image(new Bench(registers, lines), new ArrayList<>(held));
    return degrees();
  }

  int restore() {
    if (image == null) {
      return STATE;
    }
    registers = image.bench.registers;
    lines = image.bench.lines;
    held = new ArrayList<>(image.held);
    steps.clear();
    return degrees();
  }

  int count(int what) {
    switch (what) {
      case 0:
        return steps.size();
      case 1:
        return tape.length();
      case 2:
        return (int) held.stream().filter(thing -> thing != null).count();
      case 3:
        return (int) lines.stream().filter(line -> !line.equals(List.of(0, 0, 0))).count();
      case 4:
        return (int) rows.stream().filter(row -> row != null).count();
      default:
        return BAD;
    }
  }
}
