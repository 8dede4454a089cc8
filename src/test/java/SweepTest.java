import java.lang.reflect.InvocationTargetException;
import java.lang.reflect.Method;
import java.lang.reflect.Modifier;
import java.util.Arrays;
import java.util.HashMap;
import java.util.List;
import java.util.Map;

/**
 * Every call with all its arguments at and around their edges, in several states: the answer is the model's,
 * and what is asked or refused changes nothing.
 */
public final class SweepTest {
  private static final int LEAST = Integer.MIN_VALUE, GREATEST = Integer.MAX_VALUE;
  private static final int[] REGISTER = {LEAST, -1, 0, 1, 2, 3, 4, GREATEST};
  private static final int[] LINE = {LEAST, -1, 0, 1, 5, 6, GREATEST};
  private static final int[] DEGREE = {LEAST, -1, 0, 1, 2, 5, 6, GREATEST};
  private static final int[] NUMBER = {LEAST, -1, 0, 1, 100, 101, GREATEST};
  private static final int[] WHAT = {LEAST, -1, 0, 1, 2, 3, 4, 5, GREATEST};
  private static final int[] PLACE = {LEAST, -1, 0, 2, 3, 4, GREATEST};
  private static final int[] RACK = {LEAST, -1, 0, 1, 2, 3, GREATEST};
  private static final int[] INDEX = {LEAST, -2, -1, 0, 1, 2, 3, 5, 20, 21, GREATEST};
  private static final int[] BITS = {LEAST, -1, 0, 1, 3, 5, 63, 64, GREATEST};
  private static final int[] SIZE = {LEAST, -2, -1, 0, 1, 6, 39, 40, 41, GREATEST};
  private static final int[] LETTER = {LEAST, -1, 0, 31, 32, 59, 126, 127, 128, 255, 256, GREATEST};
  private static final List<String> ASKING = List.of("of", "told", "lineOf", "value", "kills", "rank", "killer", "deep", "deepest", "root",
      "weight", "tangent", "lead", "tally", "holds", "get", "judge", "say", "count");
  private static final int STATES = 4;

  private static final Map<String, int[][]> ARGUMENTS = new HashMap<>();
  private static int wrong = 0;
  private static int compared = 0;

  static {
    ARGUMENTS.put("zero", new int[][] {REGISTER, DEGREE});
    ARGUMENTS.put("put", new int[][] {REGISTER, DEGREE, DEGREE, NUMBER});
    ARGUMENTS.put("of", new int[][] {REGISTER, DEGREE, DEGREE});
    ARGUMENTS.put("told", new int[][] {REGISTER, WHAT});
    ARGUMENTS.put("sum", new int[][] {REGISTER, REGISTER, REGISTER, NUMBER});
    ARGUMENTS.put("contract", new int[][] {REGISTER, REGISTER, REGISTER});
    ARGUMENTS.put("multiply", new int[][] {REGISTER, REGISTER, REGISTER});
    ARGUMENTS.put("line", new int[][] {LINE, NUMBER, NUMBER, NUMBER});
    ARGUMENTS.put("lineOf", new int[][] {LINE, WHAT});
    ARGUMENTS.put("power", new int[][] {REGISTER, LINE, DEGREE});
    ARGUMENTS.put("adds", new int[][] {REGISTER, LINE, NUMBER});
    ARGUMENTS.put("value", new int[][] {REGISTER, LINE});
    ARGUMENTS.put("kills", new int[][] {REGISTER, REGISTER});
    ARGUMENTS.put("rank", new int[][] {REGISTER, DEGREE});
    ARGUMENTS.put("killer", new int[][] {REGISTER, DEGREE, INDEX, INDEX});
    ARGUMENTS.put("deep", new int[][] {REGISTER});
    ARGUMENTS.put("deepest", new int[][] {REGISTER, INDEX});
    ARGUMENTS.put("root", new int[][] {REGISTER, INDEX});
    ARGUMENTS.put("weight", new int[][] {REGISTER, INDEX});
    ARGUMENTS.put("tangent", new int[][] {DEGREE, BITS, WHAT});
    ARGUMENTS.put("lead", new int[][] {REGISTER, INDEX, WHAT});
    ARGUMENTS.put("tally", new int[][] {REGISTER, INDEX, WHAT});
    ARGUMENTS.put("store", new int[][] {RACK, PLACE, WHAT, LINE});
    ARGUMENTS.put("holds", new int[][] {RACK, PLACE});
    ARGUMENTS.put("fetch", new int[][] {RACK, PLACE, LINE});
    ARGUMENTS.put("row", new int[][] {RACK, SIZE});
    ARGUMENTS.put("lay", new int[][] {RACK, INDEX, NUMBER});
    ARGUMENTS.put("get", new int[][] {RACK, INDEX});
    ARGUMENTS.put("film", new int[][] {RACK, REGISTER});
    ARGUMENTS.put("judge", new int[][] {RACK, REGISTER});
    ARGUMENTS.put("say", new int[][] {REGISTER, INDEX});
    ARGUMENTS.put("feed", new int[][] {LETTER});
    ARGUMENTS.put("count", new int[][] {WHAT});
    for (String name : List.of("back", "wipe", "read", "image", "restore")) {
      ARGUMENTS.put(name, new int[][] {});
    }
  }

  /** Either the program or the model, called by name. */
  private static final class Called {
    private final Object target;
    private final Map<String, Method> methods = new HashMap<>();

    Called(Object target, Map<String, Method> methods) {
      this.target = target;
      this.methods.putAll(methods);
    }

    int call(String name, int... arguments) {
      try {
        return (int) methods.get(name).invoke(target, Arrays.stream(arguments).boxed().toArray());
      } catch (IllegalAccessException | InvocationTargetException fault) {
        throw new IllegalStateException(name + Arrays.toString(arguments), fault);
      }
    }

    void feed(String text) {
      for (char letter : text.toCharArray()) {
        call("feed", letter);
      }
    }
  }

  private static Map<String, Method> methodsOf(Class<?> type) {
    Map<String, Method> found = new HashMap<>();
    for (Method method : type.getDeclaredMethods()) {
      if (!Modifier.isStatic(method.getModifiers()) && ARGUMENTS.containsKey(method.getName())) {
        found.put(method.getName(), method);
      }
    }
    return found;
  }

  private static void bring(Called x, int state) {
    if (state == 1) {
      x.feed("line 0 = 1 , 2 , 0;line 1 = 0 , 1 , 0;line 2 = 1 , 3 , 4;form 0 = x2+3xy-y2");
      x.call("read");
      x.feed("add 2 0 7;form 1 = xyz+100x3");
      x.call("read");
      x.call("store", 0, 0, 0, 0);
      x.call("store", 2, 3, 1, 2);
      x.call("row", 0, 6);
      x.call("film", 2, 0);
      x.call("image");
      x.call("zero", 3, 1);
      x.call("back");
    } else if (state == 2) {
      x.feed("line 1 = 1 , 5 , 0;line 2 = 0 , 1 , 0;zero 0 5;add 0 1 3;add 0 2 4");
      x.call("read");
      x.feed("form 1 = x4y;form 2 = 0x3;form 3 = 2x4+4x2y2");
      x.call("read");
      x.call("row", 1, 0);
      x.call("store", 2, 0, 0, 1);
      x.call("store", 1, 2, 1, 1);
      x.feed("zero 0 1;zero 1 9");
    } else if (state == 3) {
      x.call("power", 0, 5, 3);
      x.call("image");
      x.call("restore");
      x.feed("zero 0 1;".repeat(8) + "zero 0 2");
    }
  }

  /** All that can be seen, and then what is held and how it was, which is seen by fetching and taking back. */
  private static String seen(Called x) {
    StringBuilder text = new StringBuilder();
    for (int what = 0; what < 5; what++) {
      text.append(x.call("count", what)).append(' ');
    }
    for (int row = 0; row < 3; row++) {
      text.append(" row");
      for (int i = 0; i < 8; i++) {
        text.append(' ').append(x.call("get", row, i));
      }
    }
    for (int k = 0; k < 6; k++) {
      text.append(' ').append(line(x, k));
    }
    for (int r = 0; r < 4; r++) {
      text.append(' ').append(form(x, r));
    }
    while (x.call("count", 0) > 0) {
      text.append(" back ").append(x.call("back"));
    }
    for (int k = 0; k < 3; k++) {
      text.append(' ').append(line(x, k));
    }
    for (int r = 0; r < 4; r++) {
      text.append(' ').append(x.call("told", r, 0)).append(' ').append(x.call("told", r, 2));
    }
    for (int place = 0; place < 12; place++) {
      int kind = x.call("fetch", place / 4, place % 4, 3);
      text.append(" held ").append(kind).append(' ').append(kind == 0 ? form(x, 3) : kind == 1 ? line(x, 3) : "");
    }
    return text.append(" image ").append(x.call("restore")).toString();
  }

  private static String line(Called x, int k) {
    return x.call("lineOf", k, 0) + "," + x.call("lineOf", k, 1) + "," + x.call("lineOf", k, 2);
  }

  private static String form(Called x, int r) {
    int degree = x.call("told", r, 0);
    StringBuilder text = new StringBuilder().append(degree).append(':');
    for (int a = degree; a >= 0; a--) {
      for (int b = degree - a; b >= 0; b--) {
        text.append(x.call("of", r, a, b)).append(' ');
      }
    }
    return text.toString();
  }

  private static Called program(Map<String, Method> methods, int state) {
    Called x = new Called(new KillingForms(), methods);
    bring(x, state);
    return x;
  }

  private static void compare(String name, int[] arguments, int state, Map<String, Method> methods, Map<String, Method> twins, String before) {
    Called x = program(methods, state);
    Called model = new Called(new Model(), twins);
    bring(model, state);
    int got = x.call(name, arguments);
    int want = model.call(name, arguments);
    compared++;
    String told = "state " + state + ": " + name + Arrays.toString(arguments) + " answered " + got;
    if (got != want) {
      wrong++;
      System.out.println(told + ", due is " + want);
    }
    boolean isStill = ASKING.contains(name) || want < 0 && !name.equals("read");
    String due = isStill ? before : seen(model);
    String is = seen(x);
    if (!is.equals(due)) {
      wrong++;
      System.out.println(told + ", behind it is " + is + ", due is " + due);
    }
  }

  private static void sweep(String name, int[][] values, int[] chosen, int at, int state, Map<String, Method> methods, Map<String, Method> twins, String before) {
    if (at == values.length) {
      compare(name, chosen.clone(), state, methods, twins, before);
      return;
    }
    for (int value : values[at]) {
      chosen[at] = value;
      sweep(name, values, chosen, at + 1, state, methods, twins, before);
    }
  }

  public static void main(String[] args) {
    Map<String, Method> methods = methodsOf(KillingForms.class);
    Map<String, Method> twins = methodsOf(Model.class);
    if (methods.size() != 38 || twins.size() != 38) {
      System.out.println("sweep: " + methods.size() + " and " + twins.size() + " calls, due are 38");
      System.exit(1);
    }
    for (int state = 0; state < STATES; state++) {
      String before = seen(program(methods, state));
      for (String name : methods.keySet().stream().sorted().toList()) {
        int[][] values = ARGUMENTS.get(name);
        sweep(name, values, new int[values.length], 0, state, methods, twins, before);
      }
    }
    System.out.println("sweep: " + compared + " calls, " + wrong + " wrong");
    if (wrong > 0) {
      System.exit(1);
    }
  }
}
