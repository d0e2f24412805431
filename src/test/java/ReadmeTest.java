import java.io.File;
import java.lang.reflect.Method;
import java.lang.reflect.Modifier;
import java.nio.file.Files;
import java.nio.file.Path;
import java.util.regex.Matcher;
import java.util.regex.Pattern;

/** What README.md tells: its example is run line by line, and no call and no test is left out. */
public final class ReadmeTest {
  private static final Check CHECK = new Check();
  private static final Pattern LINE = Pattern.compile("x\\.(\\w+)\\(([^)]*)\\);(?:\\s*// (-?\\d+)\\b.*)?");

  public static void main(String[] args) throws Exception {
    String readme = Files.readString(Path.of("README.md"));
    exampleAnswersAsTold(readme);
    everyCallIsTold(readme);
    everyTestIsTold(readme);
    CHECK.finish();
  }

  private static void exampleAnswersAsTold(String readme) throws ReflectiveOperationException {
    int start = readme.indexOf("```java");
    int end = readme.indexOf("```", start + 3);
    CHECK.holds("there is an example", start >= 0 && end > start);
    RandomModels x = new RandomModels();
    int answers = 0;
    for (String line : readme.substring(Math.max(0, start), Math.max(0, end)).split("\n")) {
      if (line.startsWith("x.")) {
        answers += runLine(x, line);
      }
    }
    CHECK.holds("the example tells answers", answers > 0);
  }

  /** How many answers the line tells: one, or none. */
  private static int runLine(RandomModels x, String line) throws ReflectiveOperationException {
    Matcher call = LINE.matcher(line);
    if (!call.matches()) {
      CHECK.holds("a line of the example can be read: " + line, false);
      return 0;
    }
    Method method = methodNamed(call.group(1));
    Object answer = method.invoke(x, arguments(method, call.group(2)));
    boolean told = call.group(3) != null;
    CHECK.holds("all but void calls tell an answer: " + line, told == (answer != null));
    if (told && answer != null) {
      CHECK.due("README.md: " + line, ((Number) answer).longValue(), Long.parseLong(call.group(3)));
    }
    return told ? 1 : 0;
  }

  private static Method methodNamed(String name) throws NoSuchMethodException {
    for (Method method : RandomModels.class.getDeclaredMethods()) {
      if (method.getName().equals(name) && Modifier.isPublic(method.getModifiers())) {
        return method;
      }
    }
    throw new NoSuchMethodException(name);
  }

  private static Object[] arguments(Method method, String text) {
    Class<?>[] types = method.getParameterTypes();
    Object[] values = new Object[types.length];
    String[] words = text.split(", ");
    for (int i = 0; i < types.length; i++) {
      if (types[i] == boolean.class) {
        values[i] = Boolean.valueOf(words[i]);
      } else if (types[i] == long.class) {
        values[i] = Long.valueOf(words[i]);
      } else {
        values[i] = Integer.valueOf(words[i]);
      }
    }
    return values;
  }

  private static void everyCallIsTold(String readme) {
    for (Method method : RandomModels.class.getDeclaredMethods()) {
      if (Modifier.isPublic(method.getModifiers())) {
        CHECK.holds("README.md tells " + method.getName(), readme.contains("`" + method.getName() + "("));
      }
    }
    CHECK.holds("README.md tells BAD and NONE", readme.contains("`BAD`") && readme.contains("`NONE`"));
  }

  private static void everyTestIsTold(String readme) {
    CHECK.holds("README.md tells how tests are run", readme.contains("`.ci/run`"));
    String[] files = new File("src/test/java").list();
    CHECK.holds("there are tests", files != null && files.length > 0);
    for (String file : files == null ? new String[0] : files) {
      String name = file.replace(".java", "");
      CHECK.holds("README.md tells " + name, readme.contains("`" + name + "`"));
    }
  }
}
