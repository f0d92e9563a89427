import java.io.IOException;
import java.lang.reflect.Constructor;
import java.lang.reflect.Field;
import java.lang.reflect.Method;
import java.lang.reflect.Modifier;
import java.nio.charset.StandardCharsets;
import java.nio.file.Files;
import java.nio.file.Path;
import java.util.List;
import java.util.Set;
import java.util.TreeSet;

/** The face as the document has it, and what a look at the source tells of LANGUAGE.md. */
public final class RulesTest {
  private static final Path SOURCE = Path.of("src", "main", "java", "BirdParlour.java");
  private static final String ARGUMENT = " IllegalArgumentException";
  private static final String INDEX = " IndexOutOfBoundsException";
  private static final String STATE = " IllegalStateException";
  private static final String[] FACE = {
    "int addSpring(int)" + ARGUMENT + STATE,
    "int wind(int,int)" + INDEX + ARGUMENT,
    "boolean brake(int,boolean)" + INDEX,
    "int couple(int,int,boolean)" + INDEX + ARGUMENT,
    "int spring(int,int)" + INDEX,
    "int addBird(int,int,int,int,int)" + INDEX + ARGUMENT + STATE,
    "boolean engage(int,boolean)" + INDEX,
    "int pin(int,int,int)" + INDEX + ARGUMENT + STATE,
    "int tune(int,int,int)" + INDEX + ARGUMENT,
    "int point(int,int,int,int)" + INDEX + ARGUMENT + STATE,
    "int bird(int,int)" + INDEX,
    "int lift(int,int,int)" + INDEX + ARGUMENT,
    "int run(int)" + ARGUMENT,
    "int count(int)" + INDEX,
    "int sung(int,int)" + INDEX,
    "int chord(int)" + ARGUMENT,
    "int longest()",
    "int emptySongs()",
    "int runsDown(int)" + ARGUMENT,
    "double tension()",
    "long digest()",
  };
  private static final String[] FORBIDDEN = {
    "import ", "->", "::", "\\btry\\b", "\\bcatch\\b", "\\bfinally\\b", "\\bassert\\b",
    "\\bsynchronized\\b", "\\bSystem\\b", "\\w+Exact\\b", "\\bstatic\\s*\\{", "\\bprotected\\b",
    "\\bpackage\\b", "\"\\s*\\+", "\\+\\s*\"", "\\bRandom\\b", "\\bThread\\b", "\\bObject\\b",
  };

  public static void main(String[] args) throws IOException {
    face();
    names();
    limits();
    source();
    Check.end("RulesTest");
  }

  private static String written(Method m) {
    StringBuilder text = new StringBuilder(m.getReturnType().getName());
    text.append(' ').append(m.getName()).append('(');
    for (Class<?> type : m.getParameterTypes()) {
      text.append(text.charAt(text.length() - 1) == '(' ? "" : ",").append(type.getName());
    }
    text.append(')');
    for (Class<?> type : m.getExceptionTypes()) {
      text.append(' ').append(type.getSimpleName());
    }
    return text.toString();
  }

  private static void face() {
    Set<String> got = new TreeSet<>();
    for (Method m : BirdParlour.class.getDeclaredMethods()) {
      if (!Modifier.isPrivate(m.getModifiers())) {
        got.add(written(m));
        Check.due(m + " is public alone", m.getModifiers(), Modifier.PUBLIC);
      }
    }
    Check.due("the face " + got, got.equals(new TreeSet<>(Set.of(FACE))), true);
    for (Field f : BirdParlour.class.getDeclaredFields()) {
      Check.due(f + " is private", Modifier.isPrivate(f.getModifiers()), true);
    }
    Constructor<?>[] makers = BirdParlour.class.getDeclaredConstructors();
    Check.due("constructors", makers.length, 1);
    Check.due("its constructor is public", makers[0].getModifiers(), Modifier.PUBLIC);
    Check.due("its arguments", makers[0].getParameterCount(), 0);
    Check.due("the class", BirdParlour.class.getModifiers(), Modifier.PUBLIC | Modifier.FINAL);
  }

  private static void names() {
    Set<String> open = new TreeSet<>();
    for (Method m : BirdParlour.class.getMethods()) {
      open.add(m.getName());
    }
    for (Method m : BirdParlour.class.getDeclaredMethods()) {
      if (Modifier.isPrivate(m.getModifiers())) {
        Check.due(m + " bears a public name", open.contains(m.getName()), false);
      }
    }
    int classes = 1;
    for (Class<?> inside : BirdParlour.class.getDeclaredClasses()) {
      classes++;
      Check.due(inside + " is static", Modifier.isStatic(inside.getModifiers()), true);
      for (Method m : inside.getDeclaredMethods()) {
        Check.due(m + " bears a public name", open.contains(m.getName()), false);
        Check.due(m + " has too many parameters", m.getParameterCount() > 7, false);
      }
    }
    Check.due("classes are at most 12", classes <= 12, true);
  }

  private static void limits() throws IOException {
    fields(BirdParlour.class);
    for (Class<?> inside : BirdParlour.class.getDeclaredClasses()) {
      fields(inside);
      for (Constructor<?> maker : inside.getDeclaredConstructors()) {
        Check.due(maker + " has too many parameters", maker.getParameterCount() > 7, false);
      }
    }
    lengths(Files.readAllLines(SOURCE, StandardCharsets.ISO_8859_1));
  }

  private static void fields(Class<?> type) {
    int own = 0;
    for (Field f : type.getDeclaredFields()) {
      if (Modifier.isStatic(f.getModifiers())) {
        Check.due(f + " is final", Modifier.isFinal(f.getModifiers()), true);
      } else {
        own++;
      }
    }
    Check.due(type + " has at most 20 fields", own <= 20, true);
  }

  /** A method ends at the first closing brace that stands as far in as its own first line. */
  private static void lengths(List<String> lines) {
    for (int from = 0; from < lines.size(); from++) {
      String line = lines.get(from);
      String margin = line.substring(0, line.length() - line.stripLeading().length());
      if (line.contains("(") && (margin.length() == 2 || margin.length() == 4)) {
        int to = from;
        while (to < lines.size() && !lines.get(to).equals(margin + "}")) {
          to++;
        }
        boolean isMethod = to < lines.size() && !line.endsWith(";");
        Check.due("too long: " + line, isMethod && to - from + 1 > 60, false);
      }
    }
  }

  private static void source() throws IOException {
    String text = Files.readString(SOURCE, StandardCharsets.ISO_8859_1);
    for (int k = 0; k < text.length(); k++) {
      char sign = text.charAt(k);
      if (sign != '\n' && (sign < 32 || sign > 126)) {
        Check.fault("the source has the sign " + (int) sign + " at " + k);
      }
    }
    String code = text.replaceAll("/\\*(?s:.*?)\\*/", "").replaceAll("//[^\n]*", "");
    for (String word : FORBIDDEN) {
      boolean isThere = java.util.regex.Pattern.compile(word).matcher(code).find();
      Check.due("the source has " + word, isThere, false);
    }
  }
}
