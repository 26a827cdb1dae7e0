import java.lang.reflect.InvocationTargetException;
import java.lang.reflect.Method;
import java.lang.reflect.Modifier;
import java.util.ArrayList;
import java.util.Arrays;
import java.util.Comparator;
import java.util.List;
import java.util.Random;

/** Long runs of calls, the same ones each time, on the program and on the naive one: all answers agree. */
public final class RandomRunsTest {
  private static final int RUNS = 1200;
  private static final int CALLS = 512;

  /** What the arguments of each call are, so that most of them are near what the call can use. */
  private static final String[] ROLES = {
    "make place kind t", "cross place place t", "add place set", "drop place set", "clash", "empty place",
    "holds place", "count place what", "has place set", "set place index", "is place kind t",
    "shadow place place", "up place place", "closed place boolean place", "ends place boolean place",
    "mix place place how place", "rest place boolean place", "trace place set place",
    "turned place turn place", "push place thing thing", "pushed place", "first t m place",
    "sum place", "rank set", "ranked t index", "cascade thousand t index", "least thousand t",
    "chain set which", "ring place turn t", "weight place nine nine", "matters place thing",
    "product place place", "flower place petals", "petal index", "cover place", "loose place",
    "shattered place set", "greatest t t place", "same place place", "turns place",
    "row place sort length", "put place index long", "element place index",
    "copy place index place index index", "take place place", "heft place", "toss place",
  };

  /** Calls that build up FAMILIES come more often than those that ask or empty. */
  private static final String[] OFTEN = {"add", "add", "add", "add", "add", "add", "take", "put", "put", "make"};

  private static final Random RANDOM = new Random(20261117);
  private static int n;

  private static int near(int from, int to) {
    int dice = RANDOM.nextInt(60);
    if (dice == 0) return from - 1;
    if (dice == 1) return to + 1;
    if (dice == 2) {
      int[] far = {Integer.MIN_VALUE, Integer.MAX_VALUE, -64, 64, 1 << 30, -2};
      return far[RANDOM.nextInt(far.length)];
    }
    return from + RANDOM.nextInt(to - from + 1);
  }

  private static int order() {
    if (RANDOM.nextInt(8) == 0) return near(0, 1 << 3 * n);
    List<Integer> things = new ArrayList<>();
    for (int i = 0; i < n; i++) things.add(i);
    int digits = 0;
    while (!things.isEmpty()) digits = digits * 8 + things.remove(RANDOM.nextInt(things.size()));
    return RANDOM.nextInt(20) == 0 ? digits ^ 1 << RANDOM.nextInt(3 * n + 3) : digits;
  }

  private static Object argument(String role) {
    switch (role) {
      case "place": return RANDOM.nextInt(12) == 0 ? near(0, 15) : near(0, 4);
      case "kind": return near(0, 4);
      case "t": return near(0, n);
      case "set": return RANDOM.nextInt(3) == 0 ? near(0, 7) : near(0, (1 << n) - 1);
      case "what": return near(0, 9);
      case "index": return RANDOM.nextInt(4) == 0 ? near(0, 64) : near(0, 6);
      case "boolean": return RANDOM.nextBoolean();
      case "how": return near(0, 5);
      case "turn": return order();
      case "thing": return near(0, n - 1);
      case "m": return RANDOM.nextInt(3) == 0 ? near(0, 20) : near(0, 6);
      case "thousand": return RANDOM.nextInt(2) == 0 ? near(1, 60) : near(1, 1000);
      case "which": return near(0, 2);
      case "nine": return near(0, 9);
      case "petals": return near(2, 5);
      case "sort": return near(6, 8);
      case "length": return RANDOM.nextInt(4) == 0 ? near(0, 64) : near(0, 8);
      case "long":
        if (RANDOM.nextInt(6) == 0) return RANDOM.nextLong();
        if (RANDOM.nextInt(6) == 0) return (long) near(0, 63) + (1L << 8 * (1 + RANDOM.nextInt(7)));
        return (long) near(0, (1 << n) - 1);
      default: throw new IllegalStateException(role);
    }
  }

  private static String answer(Method method, Object on, Object[] arguments) throws IllegalAccessException {
    try {
      return String.valueOf(method.invoke(on, arguments));
    } catch (InvocationTargetException e) {
      return "throws." + e.getCause().getClass().getSimpleName();
    }
  }

  private static Method named(Method[] methods, String name) {
    for (Method m : methods) if (m.getName().equals(name) && Modifier.isPublic(m.getModifiers())) return m;
    throw new IllegalStateException(name);
  }

  private static String[] roles(String name) {
    for (String line : ROLES) if (line.split(" ")[0].equals(name)) return line.split(" ");
    throw new IllegalStateException(name);
  }

  private static boolean agrees(int run, Method[] real, Method[] naive) throws IllegalAccessException {
    int things = RANDOM.nextInt(9) - 4;
    n = 3 + Math.floorMod(things, 4);
    SetHouse house = new SetHouse(things);
    NaiveHouse model = new NaiveHouse(things);
    List<String> story = new ArrayList<>();
    story.add("new SetHouse(" + things + ")");
    for (int i = 0; i < CALLS; i++) {
      boolean often = RANDOM.nextInt(3) == 0;
      String[] call = often ? roles(OFTEN[RANDOM.nextInt(OFTEN.length)]) : ROLES[RANDOM.nextInt(ROLES.length)].split(" ");
      if (call[0].equals("empty") && RANDOM.nextInt(3) != 0) continue;
      Object[] arguments = new Object[call.length - 1];
      for (int a = 0; a < arguments.length; a++) arguments[a] = argument(call[a + 1]);
      String got = answer(named(real, call[0]), house, arguments);
      String due = answer(named(naive, call[0]), model, arguments);
      story.add(call[0] + Arrays.toString(arguments) + " " + got);
      if (!got.equals(due)) {
        int from = Math.max(0, story.size() - 40);
        System.out.println("run " + run + ", n " + n + ": due was " + due + "; the last calls:");
        for (String line : story.subList(from, story.size())) System.out.println("  " + line);
        return false;
      }
    }
    return true;
  }

  public static void main(String[] args) throws IllegalAccessException {
    Method[] real = SetHouse.class.getDeclaredMethods();
    Method[] naive = NaiveHouse.class.getDeclaredMethods();
    Arrays.sort(real, Comparator.comparing(Method::getName));
    int wrong = 0;
    for (int run = 0; run < RUNS && wrong < 3; run++) {
      if (!agrees(run, real, naive)) wrong++;
    }
    System.out.println(wrong == 0 ? "all runs agree" : wrong + " runs do not agree");
    if (wrong != 0) System.exit(1);
  }
}
