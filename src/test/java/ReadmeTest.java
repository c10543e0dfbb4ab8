import java.io.IOException;
import java.lang.reflect.Method;
import java.lang.reflect.Modifier;
import java.nio.file.Files;
import java.nio.file.Path;
import java.util.Set;
import java.util.TreeSet;
import java.util.regex.Matcher;
import java.util.regex.Pattern;

/** README.md tells of every method, and the calls of its example answer what it says. */
public final class ReadmeTest {
  // A line that is typed, or a call with the answer that stands behind it.
  private static final Pattern STEP =
      Pattern.compile("type\\(x, \"([^\"]*)\"\\);|x\\.(\\w+)\\(([^)]*)\\);\\s*// (-?\\w+)");

  public static void main(String[] args) throws IOException, ReflectiveOperationException {
    String readme = Files.readString(Path.of("README.md"));
    Set<String> called = runExample(readme);
    for (Method method : HornLearner.class.getDeclaredMethods()) {
      if (Modifier.isPublic(method.getModifiers())) {
        String start = "- `" + method.getReturnType() + " " + method.getName() + "(";
        Check.due("README.md has " + start, true, readme.contains(start));
        Check.due("the example calls " + method.getName(), true, called.contains(method.getName()));
      }
    }
    Check.due("README.md has the constructor", true, readme.contains("- `HornLearner()`: "));
    Check.due("README.md tells how the tests are run", true, readme.contains("\n.ci/run\n"));
    Check.end();
  }

  /** Answers the names of the methods that the example calls. */
  private static Set<String> runExample(String readme) throws ReflectiveOperationException {
    Set<String> called = new TreeSet<>();
    Counted x = new Counted();
    Matcher step = STEP.matcher(readme);
    while (step.find()) {
      if (step.group(1) != null) {
        Check.type(x, step.group(1));
      } else {
        called.add(step.group(2));
        String answer = String.valueOf(call(x, step.group(2), step.group(3)));
        Check.due("README.md: " + step.group(), step.group(4), answer);
      }
    }
    Check.due("README.md has what is learnt", true, readme.contains("`" + Check.text(x) + "`."));
    return called;
  }

  private static Object call(Counted x, String name, String arguments)
      throws ReflectiveOperationException {
    if (arguments.startsWith("'")) {
      return Counted.class.getDeclaredMethod(name, char.class).invoke(x, arguments.charAt(1));
    }
    String[] numbers = arguments.isEmpty() ? new String[0] : arguments.split(", ");
    Class<?>[] types = new Class<?>[numbers.length];
    Object[] values = new Object[numbers.length];
    for (int i = 0; i < numbers.length; i++) {
      types[i] = int.class;
      values[i] = Integer.valueOf(numbers[i]);
    }
    return Counted.class.getDeclaredMethod(name, types).invoke(x, values);
  }
}
