import java.util.ArrayList;
import java.util.List;
import java.util.Random;

/** Long runs of calls, the same ones each time, on the program and on the naive one: all answers agree. */
public final class RandomRunsTest {
  private static final int RUNS = 2400;
  private static final int USUAL_PLACES = 5;
  /** The most calls that one step of a run may add: a FAMILY that is filled, a call, and what is asked of it. */
  private static final int MOST_AT_ONCE = 42;
  private static final int ASKED_AT_END = USUAL_PLACES * (3 + 64);

  /** What the arguments of each call are, so that most of them are near what the call can use. */
  private static final String[] ROLES = {
    "make place kind t", "cross place place t", "add place set", "drop place set", "clash", "empty place",
    "holds place", "count place what", "has place set", "set place index", "is place kind t",
    "shadow place place", "up place place", "closed place boolean place", "ends place boolean place",
    "mix place place how place", "rest place boolean place", "trace place set place",
    "turned place turn place", "push place thing thing", "pushed place", "first t m place",
    "sum place", "rank set", "ranked t index", "cascade thousand t index", "least thousand t",
    "chain set which", "ring place turn t", "weight place nine nine", "matters place thing",
    "product place place", "flower place petals", "petal index", "cover place", "loose place",
    "shattered place set", "greatest t t place", "same place place", "turns place",
    "row place sort length", "put place index long", "element place index",
    "copy place index place index index", "take place place", "heft place", "toss place",
  };

  /** Calls that build up FAMILIES come more often than those that ask or empty. */
  private static final String[] OFTEN = {"add", "add", "add", "add", "add", "add", "take", "put", "put", "make"};

  private static final Random RANDOM = new Random(20261117);
  private static int n;

  private static int near(int from, int to) {
    int dice = RANDOM.nextInt(60);
    if (dice == 0) return from - 1;
    if (dice == 1) return to + 1;
    if (dice == 2) {
      int[] far = {Integer.MIN_VALUE, Integer.MAX_VALUE, -64, 64, 1 << 30, -2};
      return far[RANDOM.nextInt(far.length)];
    }
    return from + RANDOM.nextInt(to - from + 1);
  }

  private static int order() {
    if (RANDOM.nextInt(8) == 0) return near(0, 1 << 3 * n);
    List<Integer> things = new ArrayList<>();
    for (int i = 0; i < n; i++) things.add(i);
    int digits = 0;
    while (!things.isEmpty()) digits = digits * 8 + things.remove(RANDOM.nextInt(things.size()));
    return RANDOM.nextInt(20) == 0 ? digits ^ 1 << RANDOM.nextInt(3 * n + 3) : digits;
  }

  private static Object argument(String role) {
    switch (role) {
      case "place": return RANDOM.nextInt(12) == 0 ? near(0, 15) : near(0, USUAL_PLACES - 1);
      case "kind": return near(0, 4);
      case "t": return near(0, n);
      case "set": return RANDOM.nextInt(3) == 0 ? near(0, 7) : near(0, (1 << n) - 1);
      case "what": return near(0, 9);
      case "index": return RANDOM.nextInt(4) == 0 ? near(0, 64) : near(0, 6);
      case "boolean": return RANDOM.nextBoolean();
      case "how": return near(0, 5);
      case "turn": return order();
      case "thing": return near(0, n - 1);
      case "m": return RANDOM.nextInt(3) == 0 ? near(0, 20) : near(0, 6);
      case "thousand": return RANDOM.nextInt(2) == 0 ? near(1, 60) : near(1, 1000);
      case "which": return near(0, 2);
      case "nine": return near(0, 9);
      case "petals": return near(2, 5);
      case "sort": return near(6, 8);
      case "length": return RANDOM.nextInt(4) == 0 ? near(0, 64) : near(0, 8);
      case "long":
        if (RANDOM.nextInt(6) == 0) return RANDOM.nextLong();
        if (RANDOM.nextInt(6) == 0) return (long) near(0, 63) + (1L << 8 * (1 + RANDOM.nextInt(7)));
        return (long) near(0, (1 << n) - 1);
      default: throw new IllegalStateException(role);
    }
  }

  private static String[] roles(String name) {
    for (String line : ROLES) if (line.split(" ")[0].equals(name)) return line.split(" ");
    throw new IllegalStateException(name);
  }

  /** A FAMILY with many SETS: single calls at random would leave nearly all of them with none or one. */
  private static void fill(Pair pair) {
    int place = RANDOM.nextInt(USUAL_PLACES);
    int kind = RANDOM.nextInt(3) == 0 ? RANDOM.nextInt(5) : 0;
    pair.call("make", place, kind, RANDOM.nextInt(n + 1));
    if (RANDOM.nextInt(2) == 0) pair.call("add", place, 0);
    int end = RANDOM.nextInt(2) == 0 ? 8 : 1 << n;
    int times = 2 + RANDOM.nextInt(Math.min(end, 24));
    for (int i = 0; i < times; i++) pair.call("add", place, RANDOM.nextInt(end));
    for (int asked = 1; asked <= 4; asked++) {
      pair.call("is", place, asked, RANDOM.nextInt(n + 1));
      pair.call("clash");
    }
  }

  private static void randomCall(Pair pair) {
    boolean often = RANDOM.nextInt(3) == 0;
    String[] call = often ? roles(OFTEN[RANDOM.nextInt(OFTEN.length)]) : ROLES[RANDOM.nextInt(ROLES.length)].split(" ");
    if (call[0].equals("empty") && RANDOM.nextInt(3) != 0) return;
    Object[] arguments = new Object[call.length - 1];
    for (int a = 0; a < arguments.length; a++) arguments[a] = argument(call[a + 1]);
    pair.call(call[0], arguments);
    askWhatItLeft(pair, call[0]);
  }

  /** A CLASH or PETALS are asked for at once: left to chance, later calls would mostly have hidden them. */
  private static void askWhatItLeft(Pair pair, String name) {
    if (List.of("add", "drop", "is", "take").contains(name)) pair.call("clash");
    if (name.equals("flower")) {
      for (int i = 0; i < 5; i++) pair.call("petal", i);
    }
  }

  private static void askAll(Pair pair) {
    for (int place = 0; place < USUAL_PLACES; place++) pair.ask(place);
  }

  /** One run in two is short, and all that stands on the usual PLACES is asked for at its end. */
  private static boolean agrees(int run) {
    int things = RANDOM.nextInt(9) - 4;
    n = 3 + Math.floorMod(things, 4);
    Pair pair = new Pair(things);
    boolean whole = run % 2 == 0;
    int end = whole ? 1 + RANDOM.nextInt(Pair.CALLS - ASKED_AT_END - MOST_AT_ONCE) : Pair.CALLS;
    for (int i = 0; i < 2 * Pair.CALLS && pair.agrees() && pair.calls() < end; i++) {
      if (i == 0 || RANDOM.nextInt(30) == 0) fill(pair);
      randomCall(pair);
    }
    if (whole) askAll(pair);
    if (!pair.agrees()) System.out.println("that was run " + run);
    return pair.agrees();
  }

  public static void main(String[] args) {
    int wrong = 0;
    for (int run = 0; run < RUNS && wrong < 3; run++) {
      if (!agrees(run)) wrong++;
    }
    System.out.println(wrong == 0 ? "all runs agree" : wrong + " runs do not agree");
    if (wrong != 0) System.exit(1);
  }
}
