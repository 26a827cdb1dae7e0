import java.lang.reflect.InvocationTargetException;
import java.lang.reflect.Method;
import java.lang.reflect.Modifier;
import java.util.ArrayList;
import java.util.Arrays;
import java.util.HashMap;
import java.util.List;
import java.util.Map;

/** The program and the naive one side by side, with the calls made so far; no more of them than the document allows. */
final class Pair {
  /** An object is used for no more calls than this. */
  static final int CALLS = 512;
  private static final int TOLD = 40;
  private static final Map<String, Method> REAL = callsOf(SetHouse.class);
  private static final Map<String, Method> NAIVE = callsOf(NaiveHouse.class);

  final int n;
  private final SetHouse house;
  private final NaiveHouse model;
  private final List<Object[]> story = new ArrayList<>();
  private boolean agree = true;

  Pair(int things) {
    n = 3 + Math.floorMod(things, 4);
    house = new SetHouse(things);
    model = new NaiveHouse(things);
  }

  private static Map<String, Method> callsOf(Class<?> type) {
    Map<String, Method> calls = new HashMap<>();
    for (Method m : type.getDeclaredMethods()) if (Modifier.isPublic(m.getModifiers())) calls.put(m.getName(), m);
    return calls;
  }

  private static Object answer(Method method, Object on, Object[] arguments) {
    try {
      return method.invoke(on, arguments);
    } catch (InvocationTargetException e) {
      return "throws." + e.getCause().getClass().getSimpleName();
    } catch (IllegalAccessException e) {
      throw new IllegalStateException(e);
    }
  }

  boolean agrees() {
    return agree;
  }

  int calls() {
    return story.size();
  }

  boolean hasRoomFor(int more) {
    return calls() + more <= CALLS;
  }

  /** The answer of both; nothing is called any more once they have not agreed, or beyond the last call allowed. */
  Object call(String name, Object... arguments) {
    if (!agree || !hasRoomFor(1)) return null;
    Object got = answer(REAL.get(name), house, arguments);
    Object due = answer(NAIVE.get(name), model, arguments);
    story.add(new Object[] {name, arguments, got});
    if (got.equals(due)) return got;
    agree = false;
    System.out.println("n " + n + ": due was " + due + "; the last calls:");
    for (Object[] told : story.subList(Math.max(0, calls() - TOLD), calls())) {
      System.out.println("  " + told[0] + Arrays.toString((Object[]) told[1]) + " " + told[2]);
    }
    return got;
  }

  /** All SETS of a FAMILY given by bits, bit s for SET s, come to a FREE one. */
  void fill(int place, long family) {
    call("make", place, 0, 0);
    for (int s = 0; s < 1 << n; s++) if ((family >>> s & 1) == 1) call("add", place, s);
  }

  /** What a FAMILY at a PLACE is. */
  void ask(int place) {
    call("holds", place);
    call("count", place, 1);
    call("count", place, 2);
    for (int s = 0; s < 1 << n; s++) call("has", place, s);
  }
}
