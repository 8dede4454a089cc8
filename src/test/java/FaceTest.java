import java.io.IOException;
import java.lang.reflect.Constructor;
import java.lang.reflect.Field;
import java.lang.reflect.Method;
import java.lang.reflect.Modifier;
import java.nio.file.Files;
import java.nio.file.Path;
import java.util.Arrays;
import java.util.Set;
import java.util.TreeSet;
import java.util.regex.Matcher;
import java.util.regex.Pattern;
import java.util.stream.Collectors;

/** The class has the document's face and no other, and keeps to those rules of LANGUAGE.md that a text tells. */
public final class FaceTest {
  private static final String[] FACE = {
    "adds/3", "back/0", "contract/3", "count/1", "deep/1", "deepest/2", "feed/1", "fetch/3", "film/2", "get/2", "holds/2", "image/0",
    "judge/2", "killer/4", "kills/2", "lay/3", "lead/3", "line/4", "lineOf/2", "multiply/3", "of/3", "power/3", "put/4", "rank/2",
    "read/0", "restore/0", "root/2", "row/2", "say/2", "store/4", "sum/4", "tally/3", "tangent/3", "told/2", "value/2", "weight/2",
    "wipe/0", "zero/2"};
  private static final String[] RULED_OUT = {
    "throw", "try", "catch", "synchronized", "assert", "import", "package", "instanceof", "Random", "System\\.(?!arraycopy)", "double",
    "float", "Exact\\(", "->", "::", "equals\\(", "hashCode", "toString", "volatile", "native"};
  private static int wrong = 0;

  private static void due(boolean well, String what) {
    if (!well) {
      wrong++;
      System.out.println("face: " + what);
    }
  }

  public static void main(String[] args) throws IOException {
    Set<String> names = Arrays.stream(FACE).map(told -> told.replaceAll("/.*", "")).collect(Collectors.toSet());
    checkFace();
    for (Class<?> inside : KillingForms.class.getDeclaredClasses()) {
      checkInside(inside, names);
    }
    checkSource(Files.readString(Path.of(args[0])));
    System.out.println(wrong == 0 ? "face: as the document's" : "face: " + wrong + " faults");
    if (wrong > 0) {
      System.exit(1);
    }
  }

  private static void checkFace() {
    Set<String> found = new TreeSet<>();
    Set<String> names = new TreeSet<>();
    for (Method method : KillingForms.class.getDeclaredMethods()) {
      if (!Modifier.isPrivate(method.getModifiers())) {
        due(Modifier.isPublic(method.getModifiers()) && method.getReturnType() == int.class, method + " is not of the face");
        found.add(method.getName() + "/" + method.getParameterCount());
        names.add(method.getName());
      }
    }
    due(found.equals(new TreeSet<>(Arrays.asList(FACE))), "methods " + found);
    for (Method method : KillingForms.class.getDeclaredMethods()) {
      due(!Modifier.isPrivate(method.getModifiers()) || !names.contains(method.getName()), method + " bears a public name");
    }
    Constructor<?>[] constructors = KillingForms.class.getDeclaredConstructors();
    due(constructors.length == 1 && Modifier.isPublic(constructors[0].getModifiers()), "constructors");
    due(Modifier.isFinal(KillingForms.class.getModifiers()), "the class is not final");
    Set<String> constants = Set.of("BAD", "NOT", "FULL", "STATE");
    for (Field field : KillingForms.class.getDeclaredFields()) {
      boolean isPublic = Modifier.isPublic(field.getModifiers());
      due(isPublic == constants.contains(field.getName()), field + " is or is not of the face");
      due(isPublic || Modifier.isPrivate(field.getModifiers()), field + " is not private");
      due(!Modifier.isStatic(field.getModifiers()) || Modifier.isFinal(field.getModifiers()), field + " is not final");
    }
    due(KillingForms.BAD == -1 && KillingForms.NOT == -2 && KillingForms.FULL == -3 && KillingForms.STATE == -5, "constants");
    due(KillingForms.class.getDeclaredClasses().length < 12, "more than twelve classes");
  }

  private static void checkInside(Class<?> inside, Set<String> names) {
    int modifiers = inside.getModifiers();
    due(Modifier.isStatic(modifiers) && !Modifier.isPublic(modifiers) && !Modifier.isProtected(modifiers), inside + " is open or not static");
    due(inside.getDeclaredFields().length <= 25, inside + " has too many fields");
    for (Method method : inside.getDeclaredMethods()) {
      due(!names.contains(method.getName()), method + " bears a public name");
      due(method.getParameterCount() <= 7, method + " has too many parameters");
    }
  }

  private static void checkSource(String source) {
    String code = source.replaceAll("(?s)/\\*.*?\\*/", "").replaceAll("//[^\n]*", "");
    for (String word : RULED_OUT) {
      Matcher matcher = Pattern.compile((Character.isLetter(word.charAt(0)) ? "\\b" : "") + word + (word.matches("\\w+") ? "\\b" : "")).matcher(code);
      due(!matcher.find(), "the source has " + word);
    }
    due(source.chars().allMatch(sign -> sign < 128), "the source has other signs than 1 to 127");
  }
}
