import java.io.IOException;
import java.lang.reflect.Method;
import java.lang.reflect.Modifier;
import java.nio.file.Files;
import java.nio.file.Path;
import java.util.regex.Matcher;
import java.util.regex.Pattern;

/** The calls that README.md shows answer what stands behind them there, and its table names every call. */
public final class ReadmeTest extends Check {
  private static final Pattern CALL = Pattern.compile("bench\\.(\\w+)\\((.*?)\\); +// (-?\\d+)(?: .*)?");
  private static final Pattern FED = Pattern.compile("for .* \"(.*)\"\\.toCharArray.*");
  private static final String NEW = "KillingForms bench = new KillingForms();";

  private static KillingForms bench = new KillingForms();
  private static boolean isCode = false;

  public static void main(String[] args) throws IOException, ReflectiveOperationException {
    String page = Files.readString(Path.of("README.md"));
    begin("README.md: the answer stands behind each call");
    for (String line : page.split("\n")) {
      if (line.startsWith("```")) {
        isCode = !isCode;
      } else if (isCode) {
        follow(line);
      }
    }
    begin("README.md: a table of all calls");
    for (Method method : KillingForms.class.getDeclaredMethods()) {
      if (Modifier.isPublic(method.getModifiers())) {
        boolean isNamed = Pattern.compile("(?m)^\\|.*`" + method.getName() + "`.*\\|$").matcher(page).find();
        due(method.getName() + " is named", isNamed ? 1 : 0, 1);
      }
    }
    finish("readme");
  }

  private static void follow(String line) throws ReflectiveOperationException {
    Matcher call = CALL.matcher(line);
    Matcher fed = FED.matcher(line);
    if (line.equals(NEW)) {
      bench = new KillingForms();
    } else if (fed.matches()) {
      for (char letter : fed.group(1).toCharArray()) {
        bench.feed(letter);
      }
    } else if (call.matches()) {
      due(line, answer(call.group(1), call.group(2)), Integer.parseInt(call.group(3)));
    } else {
      due(line + " can be followed", 0, 1);
    }
  }

  private static int answer(String name, String arguments) throws ReflectiveOperationException {
    String[] texts = arguments.isEmpty() ? new String[0] : arguments.split(", ");
    Class<?>[] types = new Class<?>[texts.length];
    Object[] numbers = new Object[texts.length];
    for (int i = 0; i < texts.length; i++) {
      types[i] = int.class;
      numbers[i] = Integer.valueOf(texts[i]);
    }
    return (int) KillingForms.class.getMethod(name, types).invoke(bench, numbers);
  }
}
