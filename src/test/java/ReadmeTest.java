import java.io.IOException;
import java.lang.reflect.InvocationTargetException;
import java.lang.reflect.Method;
import java.lang.reflect.Modifier;
import java.nio.charset.StandardCharsets;
import java.nio.file.Files;
import java.nio.file.Path;
import java.util.Set;
import java.util.TreeSet;
import java.util.regex.Matcher;
import java.util.regex.Pattern;

/** README.md shows what is so: every call in it answers as it says, every file in it is there. */
public final class ReadmeTest {
  private static final Path README = Path.of("README.md");
  private static final Path TESTS = Path.of("src", "test", "java");
  private static final String NEW_PARLOUR = "BirdParlour parlour = new BirdParlour();";
  private static final Pattern BLOCK = Pattern.compile("```java\n(.*?)```", Pattern.DOTALL);
  // the call's name, its arguments, and its answer up to a colon or the end of the line
  private static final Pattern CALL =
      Pattern.compile("parlour\\.(\\w+)\\(([^()]*)\\);\\s+// ([^:]+)(?:: .+)?");
  private static final Pattern FILE =
      Pattern.compile("(?:\\.\\./shared/|src/|\\.ci/)[\\w./]*\\w");

  private static final Set<String> called = new TreeSet<>();
  private static BirdParlour parlour = null;

  public static void main(String[] args) throws IOException, IllegalAccessException {
    String text = Files.readString(README, StandardCharsets.UTF_8);
    goThroughBlocks(text);
    Check.due("every call is shown, " + called, called.equals(face()), true);
    filesAreThere(text);
    testsAreNamed(text);
    Check.end("ReadmeTest");
  }

  private static void goThroughBlocks(String text) throws IllegalAccessException {
    Matcher block = BLOCK.matcher(text);
    while (block.find()) {
      for (String line : block.group(1).split("\n")) {
        if (line.equals(NEW_PARLOUR)) {
          parlour = new BirdParlour();
        } else if (!line.isBlank()) {
          goThroughLine(line);
        }
      }
    }
  }

  private static void goThroughLine(String line) throws IllegalAccessException {
    Matcher call = CALL.matcher(line);
    if (!call.matches() || parlour == null) {
      Check.fault("not a call with its answer: " + line);
      return;
    }
    String[] args = call.group(2).isEmpty() ? new String[0] : call.group(2).split(", ");
    Method method = methodNamed(call.group(1));
    if (method == null || method.getParameterCount() != args.length) {
      Check.fault("no such call: " + line);
      return;
    }
    called.add(method.getName());
    String got = answer(method, args);
    Check.due(line + " (it is " + got + ")", got.equals(call.group(3)), true);
  }

  private static Method methodNamed(String name) {
    for (Method method : BirdParlour.class.getDeclaredMethods()) {
      if (Modifier.isPublic(method.getModifiers()) && method.getName().equals(name)) {
        return method;
      }
    }
    return null;
  }

  private static String answer(Method method, String[] args) throws IllegalAccessException {
    Object[] values = new Object[args.length];
    for (int k = 0; k < args.length; k++) {
      boolean isFlag = method.getParameterTypes()[k] == boolean.class;
      values[k] = isFlag ? (Object) flag(args[k]) : (Object) Integer.valueOf(args[k]);
    }
    try {
      return String.valueOf(method.invoke(parlour, values));
    } catch (InvocationTargetException e) {
      return "throws " + e.getCause().getClass().getSimpleName();
    }
  }

  private static boolean flag(String word) {
    if (!word.equals("true") && !word.equals("false")) {
      Check.fault("neither true nor false: " + word);
    }
    return word.equals("true");
  }

  private static Set<String> face() {
    Set<String> names = new TreeSet<>();
    for (Method method : BirdParlour.class.getDeclaredMethods()) {
      if (Modifier.isPublic(method.getModifiers())) {
        names.add(method.getName());
      }
    }
    return names;
  }

  private static void filesAreThere(String text) {
    Matcher file = FILE.matcher(text);
    while (file.find()) {
      Check.due(file.group() + " is there", Files.exists(Path.of(file.group())), true);
    }
  }

  private static void testsAreNamed(String text) throws IOException {
    try (var files = Files.newDirectoryStream(TESTS, "*Test.java")) {
      for (Path file : files) {
        String name = file.getFileName().toString().replace(".java", "");
        Check.due(name + " is named", text.contains("`" + name + "`"), true);
      }
    }
  }
}
