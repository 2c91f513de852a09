import java.io.IOException;
import java.lang.reflect.InvocationTargetException;
import java.lang.reflect.Method;
import java.lang.reflect.Modifier;
import java.nio.file.Files;
import java.nio.file.Path;
import java.util.ArrayList;
import java.util.List;
import java.util.TreeSet;
import java.util.regex.Matcher;
import java.util.regex.Pattern;

/** The runs of calls that README.md shows, each call held against the answer that stands behind it. */
public final class ReadmeTest extends Due {
  private static final String MAKING = "SharedChoices x = new SharedChoices();";
  private static final Pattern CALL = Pattern.compile("x\\.(\\w+)\\((.*?)\\);\\s*(?://\\s*(.*))?");
  private static final Pattern ANSWER = Pattern.compile("(?:throws )?([-\\w]+)(?::.*)?");

  private static List<String> linesOfRuns() throws IOException {
    List<String> found = new ArrayList<>();
    boolean in = false;
    for (String line : Files.readAllLines(Path.of("README.md"))) {
      if (line.startsWith("```")) in = line.equals("```java");
      else if (in && !line.isBlank()) found.add(line.strip());
    }
    return found;
  }

  private static Method methodOf(String name) {
    for (Method one : SharedChoices.class.getDeclaredMethods()) {
      if (Modifier.isPublic(one.getModifiers()) && one.getName().equals(name)) return one;
    }
    throw new IllegalArgumentException("README.md calls " + name + ", which the class has not");
  }

  private static Object[] argumentsOf(Method method, String written) {
    String[] parts = written.isBlank() ? new String[0] : written.split(",");
    Object[] arguments = new Object[parts.length];
    for (int k = 0; k < parts.length; k++) {
      String part = parts[k].strip();
      Class<?> type = method.getParameterTypes()[k];
      if (type == boolean.class) arguments[k] = Boolean.valueOf(part);
      else if (type == long.class) arguments[k] = Long.valueOf(part);
      else arguments[k] = Integer.valueOf(part);
    }
    return arguments;
  }

  private static String answerOf(SharedChoices x, Method method, String arguments) throws IllegalAccessException {
    try {
      return String.valueOf(method.invoke(x, argumentsOf(method, arguments)));
    } catch (InvocationTargetException e) {
      return e.getCause().getClass().getSimpleName();
    }
  }

  /** Behind a call that answers nothing, what is written is a remark. */
  private static String written(Method method, String behind) {
    if (behind == null || method.getReturnType() == void.class && !behind.startsWith("throws ")) return "null";
    Matcher answer = ANSWER.matcher(behind);
    return answer.matches() ? answer.group(1) : behind;
  }

  public static void main(String[] args) throws IOException, IllegalAccessException {
    SharedChoices x = null;
    TreeSet<String> used = new TreeSet<>();
    for (String line : linesOfRuns()) {
      Matcher call = CALL.matcher(line);
      if (line.equals(MAKING)) {
        x = new SharedChoices();
      } else if (call.matches()) {
        Method method = methodOf(call.group(1));
        used.add(method.getName());
        dueText("README.md: " + line, answerOf(x, method, call.group(2)), written(method, call.group(3)));
      } else {
        dueText("README.md", line, "a call with its answer");
      }
    }
    for (Method one : SharedChoices.class.getDeclaredMethods()) {
      if (Modifier.isPublic(one.getModifiers()) && !used.contains(one.getName())) dueText("README.md", "no call of " + one.getName(), "one");
    }
    finish();
  }
}
