import java.io.IOException;
import java.lang.reflect.InvocationTargetException;
import java.lang.reflect.Method;
import java.lang.reflect.Modifier;
import java.nio.file.DirectoryStream;
import java.nio.file.Files;
import java.nio.file.Path;
import java.util.ArrayList;
import java.util.List;
import java.util.TreeSet;
import java.util.regex.Matcher;
import java.util.regex.Pattern;

/**
 * README.md tells the truth: each line of its examples answers what stands behind it, each call of the face stands in
 * it, and so does each test of the project, and no other one.
 */
public final class ReadmeTest {
  /** new SetHouse(1), or a call on x with what it answers: a number, or throws.NameOfException. */
  private static final Pattern NEW = Pattern.compile("SetHouse x = new SetHouse\\((-?\\d+)\\);.*");
  private static final Pattern CALL = Pattern.compile("x\\.(\\w+)\\(([^)]*)\\); *// (-?\\d+|throws\\.\\w+)\\b.*");

  private static int wrong = 0;
  private static int answers = 0;

  private static void check(boolean holds, String what) {
    if (holds) return;
    wrong++;
    System.out.println("not so: " + what);
  }

  private static Method named(String name) {
    for (Method m : SetHouse.class.getDeclaredMethods()) {
      if (m.getName().equals(name) && Modifier.isPublic(m.getModifiers())) return m;
    }
    return null;
  }

  private static Object argument(Class<?> type, String text) {
    if (type == boolean.class) return Boolean.valueOf(text);
    return type == long.class ? (Object) Long.valueOf(text) : Integer.decode(text);
  }

  private static String answer(SetHouse x, String name, String texts) throws IllegalAccessException {
    Method call = named(name);
    if (call == null) return "no such call";
    List<Object> arguments = new ArrayList<>();
    Class<?>[] types = call.getParameterTypes();
    String[] parts = texts.isEmpty() ? new String[0] : texts.split(", *");
    if (parts.length != types.length) return "another number of arguments";
    for (int i = 0; i < parts.length; i++) arguments.add(argument(types[i], parts[i]));
    try {
      return String.valueOf(call.invoke(x, arguments.toArray()));
    } catch (InvocationTargetException e) {
      return "throws." + e.getCause().getClass().getSimpleName();
    }
  }

  private static void examples(List<String> lines) throws IllegalAccessException {
    SetHouse x = null;
    boolean inside = false;
    for (String line : lines) {
      if (line.startsWith("```")) {
        inside = line.equals("```java");
        continue;
      }
      if (!inside || line.isBlank()) continue;
      Matcher made = NEW.matcher(line);
      Matcher call = CALL.matcher(line);
      if (made.matches()) {
        x = new SetHouse(Integer.parseInt(made.group(1)));
      } else if (x != null && call.matches()) {
        answers++;
        String got = answer(x, call.group(1), call.group(2));
        check(got.equals(call.group(3)), line + " (it answers " + got + ")");
      } else {
        check(false, "a line of an example that can be tried: " + line);
      }
    }
  }

  private static void calls(String text) {
    for (Method m : SetHouse.class.getDeclaredMethods()) {
      if (!Modifier.isPublic(m.getModifiers())) continue;
      check(text.matches("(?s).*[`.]" + m.getName() + "[`(].*"), "README.md tells of " + m.getName());
    }
  }

  private static void tests(String text) throws IOException {
    TreeSet<String> there = new TreeSet<>();
    try (DirectoryStream<Path> files = Files.newDirectoryStream(Path.of("src/test/java"), "*Test.java")) {
      for (Path file : files) there.add(file.getFileName().toString().replace(".java", ""));
    }
    TreeSet<String> told = new TreeSet<>();
    Matcher test = Pattern.compile("`(\\w+Test)`").matcher(text);
    while (test.find()) told.add(test.group(1));
    check(told.equals(there), "README.md tells of the tests " + there + ", not of " + told);
  }

  public static void main(String[] args) throws IOException, IllegalAccessException {
    Path readme = Path.of("README.md");
    check(Files.exists(readme), "README.md is there");
    if (Files.exists(readme)) {
      examples(Files.readAllLines(readme));
      calls(Files.readString(readme));
      tests(Files.readString(readme));
      check(answers > 0, "README.md has an example");
    }
    System.out.println(answers + " answers of README.md, " + wrong + " things are not so");
    if (wrong != 0) System.exit(1);
  }
}
