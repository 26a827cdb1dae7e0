import java.lang.reflect.Method;
import java.lang.reflect.Modifier;
import java.util.Arrays;
import java.util.Comparator;

/**
 * Each call of the face with each choice of small, bordering and far arguments, on a house with something of each sort
 * on its shelf: it answers as the naive one does, so it never throws what the document does not name.
 */
public final class ExtremesTest {
  private static final int MIN = Integer.MIN_VALUE;
  private static final int MAX = Integer.MAX_VALUE;
  private static final int[] MANY = {
    MIN, -64, -2, -1, 0, 1, 2, 3, 4, 5, 6, 7, 8, 9, 10, 15, 16, 31, 32, 63, 64, 65, 1000, 1001, MAX,
  };
  /** For calls with four arguments or five, of which there would be too many choices. */
  private static final int[] FEW = {MIN, -1, 0, 2, 6, 7, 10, 15, MAX};
  private static final long[] LONGS = {
    Long.MIN_VALUE, MIN - 1L, -129, -1, 0, 3, 127, 128, 255, 256, MAX + 1L, Long.MAX_VALUE,
  };
  private static final int FURNITURE = 64;

  private static int wrong = 0;
  private static int tried = 0;

  private final int n;
  private Pair pair;

  private ExtremesTest(int n) {
    this.n = n;
  }

  private void family(int place, int kind, int t, int... sets) {
    pair.call("make", place, kind, t);
    for (int s : sets) pair.call("add", place, s);
  }

  private void row(int place, int sort, long... numbers) {
    pair.call("row", place, sort, numbers.length);
    for (int i = 0; i < numbers.length; i++) pair.call("put", place, i, numbers[i]);
  }

  /** PLACES 10 to 14 hold nothing. */
  private void furnish() {
    pair = new Pair(n - 3);
    family(0, 0, 0, 3, 5, (1 << n) - 1);
    family(1, 1, 0, 3, 4);
    family(2, 2, 1, 1, 7);
    family(3, 3, 0, 0, 1, 2, 3);
    family(4, 4, 2, 3, 5, 6);
    pair.call("cross", 5, 4, 1);
    pair.call("add", 5, 7);
    row(6, 6, 1, 2, 3, -1);
    row(7, 7, 5, 300, 1);
    row(8, 8, 1L << 40, 3);
    pair.call("row", 9, 8, 64);
    family(15, 0, 0, 0, 1);
    pair.call("rest", 15, false, 15);
    if (pair.calls() > FURNITURE) throw new IllegalStateException("more furniture than was thought");
  }

  private int asItIs() {
    int order = 0;
    for (int i = 0; i < n; i++) order += i << 3 * i;
    return order;
  }

  private Object[] values(Class<?> type, int parameters) {
    if (type == boolean.class) return new Object[] {false, true};
    if (type == long.class) return Arrays.stream(LONGS).boxed().toArray();
    int[] usual = parameters > 3 ? FEW : MANY;
    int[] chosen = Arrays.copyOf(usual, usual.length + 1);
    chosen[usual.length] = asItIs();
    return Arrays.stream(chosen).boxed().toArray();
  }

  private void tryAll(String name, Object[][] values, Object[] arguments, int told) {
    if (!pair.agrees()) return;
    if (told == arguments.length) {
      if (!pair.hasRoomFor(1)) furnish();
      pair.call(name, arguments.clone());
      tried++;
      return;
    }
    for (Object value : values[told]) {
      arguments[told] = value;
      tryAll(name, values, arguments, told + 1);
    }
  }

  /** Each call begins with new furniture, and gets it again where the house has been used for as much as it may be. */
  private void tryCall(Method call) {
    Class<?>[] types = call.getParameterTypes();
    Object[][] values = new Object[types.length][];
    for (int i = 0; i < types.length; i++) values[i] = values(types[i], types.length);
    furnish();
    tryAll(call.getName(), values, new Object[types.length], 0);
    if (!pair.agrees()) wrong++;
  }

  public static void main(String[] args) {
    Method[] calls = SetHouse.class.getDeclaredMethods();
    Arrays.sort(calls, Comparator.comparing(Method::getName));
    for (int n = 3; n <= 6; n++) {
      for (Method call : calls) if (Modifier.isPublic(call.getModifiers())) new ExtremesTest(n).tryCall(call);
    }
    System.out.println(tried + " choices, " + wrong + " calls do not agree");
    if (wrong != 0) System.exit(1);
  }
}
