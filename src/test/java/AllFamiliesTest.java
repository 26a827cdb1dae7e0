import java.util.ArrayList;
import java.util.List;

/**
 * Each FAMILY of 3 things there is, and each two of them, with all that can be asked of it: the program's answers are
 * those of the naive one. Nothing is left to chance here, as it is in the random runs.
 */
public final class AllFamiliesTest {
  private static final int N = 3;
  private static final int ALL = 1 << N;
  private static final int FAMILIES = 1 << ALL;
  private static final int MADE = 1;
  /** How many calls a pair of FAMILIES needs at most: two are filled, what is made of them is asked for. */
  private static final int FOR_TWO = 2 * (ALL + 1) + 8 + 6 * (1 + 3 + ALL);
  private static final List<Integer> ORDERS = new ArrayList<>();

  private static int wrong = 0;

  private static void orders(int told, int digits, int used) {
    if (told == N) ORDERS.add(digits);
    for (int i = 0; i < N && told < N; i++) {
      if ((used >> i & 1) == 0) orders(told + 1, digits | i << 3 * told, used | 1 << i);
    }
  }

  /** A new house with a FAMILY at PLACE 0. */
  private static Pair with(int family) {
    Pair pair = new Pair(0);
    pair.fill(0, family);
    return pair;
  }

  private static void end(Pair pair) {
    if (!pair.agrees()) wrong++;
    if (pair.calls() == Pair.CALLS) throw new IllegalStateException("some calls may have been left out");
  }

  private static void made(Pair pair, String name, Object... arguments) {
    pair.call(name, arguments);
    pair.ask(MADE);
  }

  private static void madeOutOf(int family) {
    Pair pair = with(family);
    made(pair, "shadow", 0, MADE);
    made(pair, "up", 0, MADE);
    for (boolean b : new boolean[] {false, true}) {
      made(pair, "closed", 0, b, MADE);
      made(pair, "ends", 0, b, MADE);
      made(pair, "rest", 0, b, MADE);
    }
    for (int s = 0; s < ALL; s++) made(pair, "trace", 0, s, MADE);
    for (int turn : ORDERS) made(pair, "turned", 0, turn, MADE);
    end(pair);
  }

  private static void pushes(int family) {
    Pair pair = with(family);
    for (int i = 0; i < N; i++) {
      for (int j = 0; j < N; j++) {
        pair.call("mix", 0, 0, 0, MADE);
        made(pair, "push", MADE, i, j);
      }
    }
    pair.call("mix", 0, 0, 0, MADE);
    made(pair, "pushed", MADE);
    end(pair);
  }

  private static void numbers(int family) {
    Pair pair = with(family);
    for (int what = 0; what <= 9; what++) pair.call("count", 0, what);
    for (int i = 0; i <= ALL; i++) pair.call("set", 0, i);
    pair.call("sum", 0);
    for (int b = 1; b <= 9; b++) for (int a = 0; a <= b; a++) pair.call("weight", 0, a, b);
    for (int i = 0; i < N; i++) pair.call("matters", 0, i);
    for (int ring : ORDERS) for (int k = 1; k < N; k++) pair.call("ring", 0, ring, k);
    pair.call("cover", 0);
    pair.call("loose", 0);
    pair.call("turns", 0);
    pair.call("heft", 0);
    for (int s = -1; s < ALL; s++) pair.call("shattered", 0, s);
    for (int p = 2; p <= 5; p++) {
      pair.call("flower", 0, p);
      for (int i = 0; i <= 5; i++) pair.call("petal", i);
    }
    end(pair);
  }

  private static void kinds(int family) {
    Pair pair = with(family);
    for (int kind = 0; kind <= 4; kind++) {
      for (int t = 0; t <= N; t++) {
        pair.call("is", 0, kind, t);
        pair.call("clash");
      }
    }
    end(pair);
  }

  /** A FAMILY of a KIND, if there is such a one: what can come to it and go from it, one SET at a time. */
  private static void comingAndGoing(int family, int kind, int t) {
    Pair pair = with(family);
    if (!Integer.valueOf(1).equals(pair.call("is", 0, kind, t))) return;
    pair.call("make", MADE, kind, t);
    for (int s = 0; s < ALL; s++) if ((family >> s & 1) == 1) pair.call("add", MADE, s);
    pair.ask(MADE);
    pair.call("heft", MADE);
    pair.call("toss", MADE);
    for (int s = 0; s < ALL; s++) {
      boolean there = (family >> s & 1) == 1;
      pair.call(there ? "drop" : "add", MADE, s);
      pair.call("clash");
      pair.call(there ? "add" : "drop", MADE, s);
      pair.call("clash");
    }
    for (String name : new String[] {"shadow", "up"}) {
      pair.call(name, MADE, 2);
      pair.ask(2);
    }
    pair.call("turned", MADE, ORDERS.get(ORDERS.size() - 1), 2);
    pair.ask(2);
    pair.call("pushed", MADE);
    pair.ask(MADE);
    end(pair);
  }

  private static void two(Pair pair, int one, int other) {
    pair.fill(0, one);
    pair.fill(1, other);
    for (int how = 0; how <= 5; how++) {
      pair.call("mix", 0, 1, how, 2);
      pair.ask(2);
    }
    pair.call("product", 0, 1);
    pair.call("same", 0, 1);
  }

  /** The one FAMILY's SETS come, where they can, to a CROSS whose PARTNER is the other. */
  private static void crosses(int one, int other) {
    Pair pair = new Pair(0);
    pair.fill(1, other);
    for (int t = 0; t <= N; t++) {
      pair.call("cross", 0, 1, t);
      for (int s = 0; s < ALL; s++) {
        if ((one >> s & 1) == 0) continue;
        pair.call("add", 0, s);
        pair.call("clash");
      }
      pair.ask(0);
      pair.call("heft", 0);
      pair.call("toss", 0);
    }
    end(pair);
  }

  private static void allPairs() {
    Pair pair = new Pair(0);
    for (int one = 0; one < FAMILIES; one++) {
      for (int other = 0; other < FAMILIES && wrong < 3; other++) {
        if (!pair.hasRoomFor(FOR_TWO)) {
          end(pair);
          pair = new Pair(0);
        }
        two(pair, one, other);
        crosses(one, other);
      }
    }
    end(pair);
  }

  public static void main(String[] args) {
    orders(0, 0, 0);
    for (int family = 0; family < FAMILIES && wrong < 3; family++) {
      madeOutOf(family);
      pushes(family);
      numbers(family);
      kinds(family);
      for (int kind = 0; kind <= 4; kind++) for (int t = 0; t <= N; t++) comingAndGoing(family, kind, t);
    }
    allPairs();
    System.out.println(wrong == 0 ? "all families agree" : wrong + " runs do not agree");
    if (wrong != 0) System.exit(1);
  }
}
