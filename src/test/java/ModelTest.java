import java.lang.reflect.Method;
import java.lang.reflect.Modifier;
import java.util.ArrayList;
import java.util.Arrays;
import java.util.Comparator;
import java.util.List;

/** Runs of calls on KillingForms and on Model, whose answers must be the same. */
public final class ModelTest {
  private static final int RUNS = 400;
  private static final int CALLS = 512;
  private static final int[] EDGES = {Integer.MIN_VALUE, -100, -3, -2, -1, 4, 5, 6, 7, 40, 41, 63, 64, 100, 101, 102, Integer.MAX_VALUE};
  private static final String SIGNS = " ;=,+-0123456789xyzabdefilnorzX";
  private static final String[] TEXTS = {"form", "line", "add", "zero", "0", "zero 1 4", "add 0 1 9", "line 2 = 1 , 2 , 3", "form 2 = x2+y2"};

  private static long seed;

  private static int below(int end) {
    seed = seed * 6364136223846793005L + 1442695040888963407L;
    return (int) ((seed >>> 33) % end);
  }

  private static int bounded(int most) {
    int kind = below(40);
    if (kind == 0) {
      return EDGES[below(EDGES.length)];
    }
    return kind == 1 ? below(most + 4) - 2 : below(most);
  }

  private static int number() {
    int kind = below(8);
    return kind < 2 ? 0 : kind < 4 ? 1 : kind < 5 ? bounded(101) : kind < 6 ? 100 : below(101);
  }

  /** Arguments that fit most of the time. */
  private static int[] argumentsOf(String name) {
    switch (name) {
      case "zero":
        return new int[] {bounded(4), bounded(6)};
      case "put":
        return new int[] {bounded(4), bounded(4), bounded(4), number()};
      case "of":
        return new int[] {bounded(4), bounded(4), bounded(4)};
      case "told":
      case "kills":
        return new int[] {bounded(4), bounded(4)};
      case "sum":
        return new int[] {bounded(4), bounded(4), bounded(4), number()};
      case "contract":
      case "multiply":
        return new int[] {bounded(4), bounded(4), bounded(4)};
      case "line":
        return new int[] {bounded(6), number(), number(), below(2) * number()};
      case "lineOf":
        return new int[] {bounded(6), bounded(3)};
      case "power":
        return new int[] {bounded(4), bounded(6), bounded(6)};
      case "adds":
        return new int[] {bounded(4), bounded(6), number()};
      case "value":
        return new int[] {bounded(4), bounded(6)};
      case "rank":
        return new int[] {bounded(4), bounded(6)};
      case "killer":
        return new int[] {bounded(4), bounded(6), bounded(12) - 1, bounded(10)};
      case "deep":
        return new int[] {bounded(4)};
      case "deepest":
      case "weight":
        return new int[] {bounded(4), bounded(5)};
      case "root":
      case "say":
        return new int[] {bounded(4), bounded(5) - 1};
      case "tangent":
        return new int[] {1 + bounded(5), bounded(64), bounded(2)};
      case "lead":
        return new int[] {bounded(4), bounded(8), bounded(2)};
      case "tally":
        return new int[] {bounded(4), bounded(8) - 1, bounded(2)};
      case "store":
        return new int[] {bounded(3), bounded(4), bounded(2), bounded(4)};
      case "holds":
        return new int[] {bounded(3), bounded(4)};
      case "fetch":
        return new int[] {bounded(3), bounded(4), bounded(4)};
      case "row":
        return new int[] {bounded(3), below(3) == 0 ? 6 : bounded(9) - 1};
      case "lay":
        return new int[] {bounded(3), bounded(6), number()};
      case "get":
        return new int[] {bounded(3), bounded(6)};
      case "film":
      case "judge":
        return new int[] {bounded(3), bounded(4)};
      case "feed":
        return new int[] {below(20) == 0 ? bounded(130) : SIGNS.charAt(below(SIGNS.length()))};
      case "count":
        return new int[] {bounded(5)};
      default:
        return new int[] {};
    }
  }

  private static String name(int i) {
    return Integer.toString(below(12) == 0 ? below(10) : below(i));
  }

  private static String term(int degree) {
    StringBuilder text = new StringBuilder(below(3) == 0 ? "" : Integer.toString(below(below(9) == 0 ? 1000 : 101)));
    int left = degree;
    for (int letter = 0; letter < 3; letter++) {
      int power = letter == 2 ? left : below(left + 1);
      left -= power;
      text.append(power == 0 ? "" : power == 1 ? "" + "xyz".charAt(letter) : "" + "xyz".charAt(letter) + power);
    }
    return text.length() == 0 ? "1" : text.toString();
  }

  private static String act() {
    switch (below(4)) {
      case 0:
        int degree = below(6);
        StringBuilder text = new StringBuilder("form " + name(4) + " = " + term(degree));
        for (int i = below(5); i > 0; i--) {
          text.append(below(3) == 0 ? '-' : '+').append(term(below(20) == 0 ? below(7) : degree));
        }
        return text.toString();
      case 1:
        return "line " + name(6) + " = " + below(104) + " , " + below(9) + " , " + below(3);
      case 2:
        return "add " + name(4) + " " + name(6) + " " + below(103);
      default:
        return "zero " + name(4) + " " + name(6);
    }
  }

  /** A text that is well, or one with a sign changed, put in, left out, or cut off. */
  private static String text() {
    StringBuilder text = new StringBuilder(act());
    for (int i = below(4); i > 0; i--) {
      text.append(';').append(act());
    }
    if (text.length() > 80) {
      text.setLength(80);
    }
    for (int i = below(3) * below(2); i > 0; i--) {
      int at = below(text.length());
      switch (below(5)) {
        case 0:
          text.setCharAt(at, SIGNS.charAt(below(SIGNS.length())));
          break;
        case 1:
          text.insert(at, SIGNS.charAt(below(SIGNS.length())));
          break;
        case 2:
          text.deleteCharAt(at);
          text.append(below(2) == 0 ? "" : ";");
          break;
        case 3:
          text.setLength(at + 1);
          break;
        default:
          text.append(TEXTS[below(TEXTS.length)]);
      }
    }
    return text.toString();
  }

  private final KillingForms x = new KillingForms();
  private final Model model = new Model();
  private final List<String> calls = new ArrayList<>();

  private void call(Method method, Method twin, int[] arguments) throws ReflectiveOperationException {
    Object[] boxed = Arrays.stream(arguments).boxed().toArray();
    Object got = method.invoke(x, boxed);
    Object want = twin.invoke(model, boxed);
    String told = method.getName() + Arrays.toString(arguments) + " -> " + got;
    calls.add(told);
    if (!got.equals(want)) {
      calls.forEach(System.out::println);
      System.out.println("the last row is wrong: due is " + want);
      System.exit(1);
    }
  }

  private static Method twinOf(Method method) throws NoSuchMethodException {
    return Model.class.getDeclaredMethod(method.getName(), method.getParameterTypes());
  }

  private static Method[] face() {
    return Arrays.stream(KillingForms.class.getDeclaredMethods()).filter(m -> Modifier.isPublic(m.getModifiers()))
        .sorted(Comparator.comparing(Method::getName)).toArray(Method[]::new);
  }

  private void run(Method[] face) throws ReflectiveOperationException {
    Method feed = KillingForms.class.getMethod("feed", int.class);
    Method read = KillingForms.class.getMethod("read");
    while (calls.size() < CALLS - 130) {
      if (below(25) == 0) {
        for (char letter : text().toCharArray()) {
          call(feed, twinOf(feed), new int[] {letter});
        }
        call(read, twinOf(read), new int[] {});
      } else {
        Method method = face[below(face.length)];
        boolean isRare = method.getName().equals("restore") || method.getName().equals("image");
        if (!isRare || below(4) == 0) {
          call(method, twinOf(method), argumentsOf(method.getName()));
        }
      }
    }
  }

  /** Powers of lines of two letters put together, and all that is asked of them. */
  private void runOfParts() throws ReflectiveOperationException {
    Method[] asked = Arrays.stream(face()).filter(m -> List.of("deep", "deepest", "root", "weight").contains(m.getName())).toArray(Method[]::new);
    Method line = KillingForms.class.getMethod("line", int.class, int.class, int.class, int.class);
    Method zero = KillingForms.class.getMethod("zero", int.class, int.class);
    Method adds = KillingForms.class.getMethod("adds", int.class, int.class, int.class);
    Method put = KillingForms.class.getMethod("put", int.class, int.class, int.class, int.class);
    for (int k = 0; k < 4; k++) {
      call(line, twinOf(line), new int[] {k, below(4) == 0 ? 0 : 1, below(3) == 0 ? below(101) : below(3), 0});
    }
    int d = below(6);
    call(zero, twinOf(zero), new int[] {0, d});
    for (int i = below(4); i > 0; i--) {
      call(adds, twinOf(adds), new int[] {0, below(4), below(101)});
    }
    for (int i = below(3); i > 0; i--) {
      int a = below(d + 1);
      call(put, twinOf(put), new int[] {0, a, d - a, below(101)});
    }
    for (Method method : asked) {
      for (int i = -1; i < 6; i++) {
        boolean isAlone = method.getParameterCount() == 1;
        call(method, twinOf(method), isAlone ? new int[] {0} : new int[] {0, i});
      }
    }
  }

  public static void main(String[] args) throws ReflectiveOperationException {
    Method[] face = face();
    for (int run = 0; run < RUNS; run++) {
      seed = run * 7919L + 12345;
      new ModelTest().run(face);
    }
    for (int run = 0; run < 300; run++) {
      seed = run * 104729L + 99;
      new ModelTest().runOfParts();
    }
    for (int run = 0; run < 20000; run++) {
      seed = run * 15485863L + 7;
      compareText(text());
    }
    System.out.println("model: all answers are the same");
  }

  private static void compareText(String text) {
    KillingForms x = new KillingForms();
    Model model = new Model();
    for (char letter : text.toCharArray()) {
      x.feed(letter);
      model.feed(letter);
    }
    int got = x.read();
    int want = model.read();
    if (got != want) {
      System.out.println("the text \"" + text + "\" answered " + got + ", due is " + want);
      System.exit(1);
    }
  }
}
