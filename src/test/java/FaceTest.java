import java.io.IOException;
import java.lang.reflect.Constructor;
import java.lang.reflect.Field;
import java.lang.reflect.Method;
import java.lang.reflect.Modifier;
import java.nio.file.Files;
import java.nio.file.Path;
import java.util.ArrayList;
import java.util.Arrays;
import java.util.List;
import java.util.TreeSet;
import java.util.regex.Matcher;
import java.util.regex.Pattern;

/** The face of the class is the document's and nothing more (rule 1 of LANGUAGE.md). */
public final class FaceTest {
  private static final String[] FACE = {
    "int add(int,int)", "int cascade(int,int,int)", "int chain(int,int)", "int clash()",
    "int closed(int,boolean,int)", "int copy(int,int,int,int,int)", "int count(int,int)", "int cover(int)",
    "int cross(int,int,int)", "int drop(int,int)", "int empty(int)", "int ends(int,boolean,int)",
    "int first(int,int,int)", "int flower(int,int)", "int greatest(int,int,int)", "int has(int,int)",
    "int heft(int)", "int holds(int)", "int is(int,int,int)", "int least(int,int)", "int loose(int)",
    "int make(int,int,int)", "int matters(int,int)", "int mix(int,int,int,int)", "int petal(int)",
    "int product(int,int)", "int push(int,int,int)", "int pushed(int)", "int put(int,int,long)",
    "int rank(int)", "int ranked(int,int)", "int rest(int,boolean,int)", "int ring(int,int,int)",
    "int row(int,int,int)", "int same(int,int)", "int set(int,int)", "int shadow(int,int)",
    "int shattered(int,int)", "int sum(int)", "int take(int,int)", "int toss(int)",
    "int trace(int,int,int)", "int turned(int,int,int)", "int turns(int)", "int up(int,int)",
    "long element(int,int)", "long weight(int,int,int)",
  };

  private static int wrong = 0;

  private static void check(boolean holds, String what) {
    if (holds) return;
    wrong++;
    System.out.println("not so: " + what);
  }

  private static String told(Method m) {
    List<String> types = new ArrayList<>();
    for (Class<?> p : m.getParameterTypes()) types.add(p.getName());
    return m.getReturnType().getName() + " " + m.getName() + "(" + String.join(",", types) + ")";
  }

  private static void face() {
    TreeSet<String> names = new TreeSet<>();
    TreeSet<String> found = new TreeSet<>();
    for (Method m : SetHouse.class.getDeclaredMethods()) {
      if (!Modifier.isPublic(m.getModifiers())) continue;
      found.add(told(m));
      names.add(m.getName());
      check(!Modifier.isStatic(m.getModifiers()), m.getName() + " belongs to an object");
      List<Class<?>> thrown = Arrays.asList(m.getExceptionTypes());
      boolean element = m.getName().equals("element");
      check(thrown.equals(element ? List.of(IllegalArgumentException.class, IllegalStateException.class) : List.of()),
          m.getName() + " says what it throws");
    }
    check(found.equals(new TreeSet<>(Arrays.asList(FACE))), "the public methods are the document's: " + found);
    Constructor<?>[] constructors = SetHouse.class.getDeclaredConstructors();
    check(constructors.length == 1 && Modifier.isPublic(constructors[0].getModifiers())
        && Arrays.equals(constructors[0].getParameterTypes(), new Class<?>[] {int.class}), "SetHouse(int) alone");
    int kind = SetHouse.class.getModifiers();
    check(Modifier.isPublic(kind) && Modifier.isFinal(kind), "the class is public and final");
    check(SetHouse.class.getPackageName().isEmpty(), "the class has no package");
    for (Method m : SetHouse.class.getDeclaredMethods()) {
      if (Modifier.isPublic(m.getModifiers())) continue;
      check(Modifier.isPrivate(m.getModifiers()), m.getName() + " is private");
      check(!names.contains(m.getName()), m.getName() + " bears a name of the face");
    }
    for (Field f : SetHouse.class.getDeclaredFields()) {
      check(Modifier.isPrivate(f.getModifiers()), f.getName() + " is private");
    }
    for (Class<?> c : SetHouse.class.getDeclaredClasses()) {
      check(Modifier.isStatic(c.getModifiers()), c.getName() + " is static");
      for (Method m : c.getDeclaredMethods()) {
        check(!names.contains(m.getName()), m.getName() + " bears a name of the face");
      }
    }
  }

  /** The document's own face has the same calls, told as Java tells them: without names and exceptions. */
  private static void sameAsDocument(String document) {
    TreeSet<String> told = new TreeSet<>();
    Matcher call = Pattern.compile("    public (int|long) (\\w+)\\(([^)]*)\\)").matcher(document);
    while (call.find()) {
      String types = call.group(3).replaceAll(", *", ",").replaceAll(" \\w+", "");
      told.add(call.group(1) + " " + call.group(2) + "(" + types + ")");
    }
    check(told.equals(new TreeSet<>(Arrays.asList(FACE))), "the document's face is the one that is tested: " + told);
  }

  /** "Ahead of the calls .. the interface says: ---- ..": so does the program, and the calls come in that order. */
  private static void headings(String document, String source) {
    int from = 0;
    int found = 0;
    Matcher heading = Pattern.compile("Ahead of the calls (.*?) the interface says: (---- .*?)\\.\n").matcher(document);
    while (heading.find()) {
      found++;
      int at = source.indexOf("    // " + heading.group(2) + "\n", from);
      check(at >= 0, "the program says, in its place: " + heading.group(2));
      from = Math.max(from, at);
      for (String name : heading.group(1).replaceAll("[`,]", "").split(" ")) {
        int call = source.indexOf(" " + name + "(", from);
        int next = source.indexOf("    // ---- ", from + 1);
        check(call >= 0 && (next < 0 || call < next), name + " stands below " + heading.group(2));
        from = Math.max(from, call);
      }
    }
    check(found == 5, "the document has five headings of calls");
  }

  /** The source is looked for below the working folder, or where the caller says. */
  public static void main(String[] args) throws IOException {
    Path source = Path.of(args.length > 0 ? args[0] : "src/main/java/SetHouse.java");
    Path document = Path.of("../shared/DOC.md");
    face();
    check(Files.exists(source), source + " is there");
    if (Files.exists(document)) {
      sameAsDocument(Files.readString(document));
      if (Files.exists(source)) headings(Files.readString(document), Files.readString(source));
    }
    System.out.println(wrong == 0 ? "the face is the document's" : wrong + " things are not so");
    if (wrong != 0) System.exit(1);
  }
}
