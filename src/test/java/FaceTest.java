import java.io.IOException;
import java.lang.reflect.Constructor;
import java.lang.reflect.Field;
import java.lang.reflect.Method;
import java.lang.reflect.Modifier;
import java.nio.file.Files;
import java.nio.file.Path;
import java.util.ArrayList;
import java.util.Arrays;
import java.util.List;
import java.util.TreeSet;
import java.util.regex.Matcher;
import java.util.regex.Pattern;

/** The face of the class is the document's, and the rules of LANGUAGE.md that can be read off are kept. */
public final class FaceTest {
  private static final String[] FACE = {
    "int add(int,int)", "int cascade(int,int,int)", "int chain(int,int)", "int clash()",
    "int closed(int,boolean,int)", "int copy(int,int,int,int,int)", "int count(int,int)", "int cover(int)",
    "int cross(int,int,int)", "int drop(int,int)", "int empty(int)", "int ends(int,boolean,int)",
    "int first(int,int,int)", "int flower(int,int)", "int greatest(int,int,int)", "int has(int,int)",
    "int heft(int)", "int holds(int)", "int is(int,int,int)", "int least(int,int)", "int loose(int)",
    "int make(int,int,int)", "int matters(int,int)", "int mix(int,int,int,int)", "int petal(int)",
    "int product(int,int)", "int push(int,int,int)", "int pushed(int)", "int put(int,int,long)",
    "int rank(int)", "int ranked(int,int)", "int rest(int,boolean,int)", "int ring(int,int,int)",
    "int row(int,int,int)", "int same(int,int)", "int set(int,int)", "int shadow(int,int)",
    "int shattered(int,int)", "int sum(int)", "int take(int,int)", "int toss(int)",
    "int trace(int,int,int)", "int turned(int,int,int)", "int turns(int)", "int up(int,int)",
    "long element(int,int)", "long weight(int,int,int)",
  };

  /** Words that the rules leave out of the program. */
  private static final String[] OUTSIDE = {
    "->", "::", "finally", "synchronized", "assert", "import", "package", "Exact(", "java.", "record ",
    "getMessage", "System.out", "System.err", "nanoTime", "currentTimeMillis", "Random", "Thread", "hashCode",
    "ArrayIndexOutOfBoundsException", "NullPointerException", "ArithmeticException", "ClassCastException",
    "NegativeArraySizeException", "ArrayStoreException", "catch (RuntimeException", "catch (Exception",
    "catch (Throwable", "catch (IndexOutOfBoundsException",
  };

  private static int wrong = 0;

  private static void check(boolean holds, String what) {
    if (holds) return;
    wrong++;
    System.out.println("not so: " + what);
  }

  private static String told(Method m) {
    List<String> types = new ArrayList<>();
    for (Class<?> p : m.getParameterTypes()) types.add(p.getName());
    return m.getReturnType().getName() + " " + m.getName() + "(" + String.join(",", types) + ")";
  }

  private static void face() {
    TreeSet<String> names = new TreeSet<>();
    TreeSet<String> found = new TreeSet<>();
    for (Method m : SetHouse.class.getDeclaredMethods()) {
      if (!Modifier.isPublic(m.getModifiers())) continue;
      found.add(told(m));
      names.add(m.getName());
      check(!Modifier.isStatic(m.getModifiers()), m.getName() + " belongs to an object");
      List<Class<?>> thrown = Arrays.asList(m.getExceptionTypes());
      boolean element = m.getName().equals("element");
      check(thrown.equals(element ? List.of(IllegalArgumentException.class, IllegalStateException.class) : List.of()),
          m.getName() + " says what it throws");
    }
    check(found.equals(new TreeSet<>(Arrays.asList(FACE))), "the public methods are the document's: " + found);
    Constructor<?>[] constructors = SetHouse.class.getDeclaredConstructors();
    check(constructors.length == 1 && Modifier.isPublic(constructors[0].getModifiers())
        && Arrays.equals(constructors[0].getParameterTypes(), new Class<?>[] {int.class}), "SetHouse(int) alone");
    int kind = SetHouse.class.getModifiers();
    check(Modifier.isPublic(kind) && Modifier.isFinal(kind), "the class is public and final");
    check(SetHouse.class.getPackageName().isEmpty(), "the class has no package");
    for (Method m : SetHouse.class.getDeclaredMethods()) {
      if (Modifier.isPublic(m.getModifiers())) continue;
      check(Modifier.isPrivate(m.getModifiers()), m.getName() + " is private");
      check(!names.contains(m.getName()), m.getName() + " bears a name of the face");
    }
    for (Field f : SetHouse.class.getDeclaredFields()) check(Modifier.isPrivate(f.getModifiers()), f.getName() + " is private");
    for (Class<?> c : SetHouse.class.getDeclaredClasses()) {
      check(Modifier.isStatic(c.getModifiers()), c.getName() + " is static");
      for (Method m : c.getDeclaredMethods()) check(!names.contains(m.getName()), m.getName() + " bears a name of the face");
    }
  }

  private static void sizes() {
    List<Class<?>> classes = new ArrayList<>(Arrays.asList(SetHouse.class.getDeclaredClasses()));
    classes.add(SetHouse.class);
    check(classes.size() <= 12, "at most twelve classes");
    for (Class<?> c : classes) {
      int fields = 0;
      for (Field f : c.getDeclaredFields()) {
        if (Modifier.isStatic(f.getModifiers())) check(Modifier.isFinal(f.getModifiers()), f.getName() + " is final");
        else fields++;
      }
      check(fields <= 20, c.getName() + " has at most twenty fields");
      for (Method m : c.getDeclaredMethods()) check(m.getParameterCount() <= 7, m.getName() + " takes at most seven");
    }
  }

  private static void text(String source) {
    String code = source.replaceAll("(?s)/\\*.*?\\*/", "").replaceAll("//[^\n]*", "");
    for (String word : OUTSIDE) check(!code.contains(word), "'" + word + "' is not in the program");
    for (char c : source.toCharArray()) check(c == '\n' || c >= 32 && c < 127, "a sign is one of 32 to 126");
    Matcher thrown = Pattern.compile("throw ([^;(]*)\\(").matcher(code);
    while (thrown.find()) {
      check(thrown.group(1).matches("new Illegal(Argument|State)Exception"), "throws as rule 6 says: " + thrown.group(1));
    }
    int start = 0;
    String[] lines = source.split("\n");
    for (int i = 0; i < lines.length; i++) {
      if (lines[i].matches(" {4}( {4})?(public|private|static|int|long|boolean|void) .*\\) (throws .*)?\\{")) start = i;
      if (lines[i].matches("    ( {4})?}")) check(i - start < 60, "a method of at most sixty lines ends at " + (i + 1));
      check(lines[i].length() <= 120, "line " + (i + 1) + " is not too long");
    }
  }

  /** The source is looked for below the working folder, or where the caller says. */
  public static void main(String[] args) throws IOException {
    Path source = Path.of(args.length > 0 ? args[0] : "src/main/java/SetHouse.java");
    face();
    sizes();
    check(Files.exists(source), source + " is there");
    if (Files.exists(source)) text(Files.readString(source));
    System.out.println(wrong == 0 ? "the face and the rules are kept" : wrong + " things are not so");
    if (wrong != 0) System.exit(1);
  }
}
