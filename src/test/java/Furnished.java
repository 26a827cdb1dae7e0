import java.util.Arrays;

/**
 * A house with something of each sort on its shelf, on which refused calls are tried: each is made on a new
 * one, answers the refusal that is due, and leaves all that can be asked for as it was.
 */
final class Furnished {
  static final int[] FAMILIES = {0, 1, 2, 3, 4, 5, 15};
  static final int[] ROWS = {6, 7, 8, 9};
  static final int[] EMPTY = {10, 14};
  static final int[] NO_PLACES = {-1, 16, Sentences.MIN, Sentences.MAX};
  /** Told by is(): no SET, so that it is known from each CLASH that an add() or drop() tells. */
  static final int CLASH = 3 + 64 * 3;
  private static final String[] UNTOUCHED = new String[7];

  private Furnished() {}

  interface Call {
    long of(SetHouse x, int... a);
  }

  /** The SETS are such as there are of 3 things too. */
  static SetHouse house(int n) {
    SetHouse x = new SetHouse(n - 3);
    furnish(x, 0, 0, 0, 3, 5);
    furnish(x, 1, 1, 0, 3, 4);
    furnish(x, 2, 2, 1, 1, 7);
    furnish(x, 3, 3, 0, 0, 1, 2, 3);
    furnish(x, 4, 4, 2, 3, 5, 6);
    x.cross(5, 4, 1);
    x.add(5, 7);
    furnish(x, 15, 0, 0, 0, (1 << n) - 1);
    row(x, 6, 6, 1, 2, 3, -1);
    row(x, 7, 7, 5, 300, 1);
    row(x, 8, 8, 1L << 40, 3);
    row(x, 9, 6);
    x.flower(0, 2);
    x.is(0, 4, 3);
    return x;
  }

  private static void furnish(SetHouse x, int place, int kind, int t, int... sets) {
    x.make(place, kind, t);
    for (int s : sets) x.add(place, s);
  }

  private static void row(SetHouse x, int place, int sort, long... v) {
    x.row(place, sort, v.length);
    for (int i = 0; i < v.length; i++) x.put(place, i, v[i]);
  }

  /** All that can be asked for but the CLASH; last, which SETS could come, since that shows t and PARTNER. */
  static String seen(SetHouse x) {
    StringBuilder s = new StringBuilder("petals");
    for (int i = 0; i < 6; i++) s.append(' ').append(x.petal(i));
    for (int place = 0; place < 16; place++) {
      int holds = x.holds(place);
      s.append("\n").append(place).append(" holds ").append(holds).append(':');
      if (holds >= 6) {
        for (int i = 0; Sentences.element(x, place, i) != Sentences.BAD_STATE && i < 65; i++) {
          s.append(' ').append(Sentences.element(x, place, i));
        }
      } else if (holds >= 0) {
        s.append(" t ").append(x.count(place, 1)).append(" partner ").append(x.count(place, 2));
        for (int i = 0; i < x.count(place, 0) && i < 16; i++) s.append(' ').append(x.set(place, i));
      }
    }
    for (int place : FAMILIES) {
      s.append("\nto ").append(place).append(" come:");
      for (int set = 0; set < 8; set++) {
        int answer = x.add(place, set);
        s.append(' ').append(answer);
        if (answer == -3) s.append('/').append(x.clash());
      }
    }
    return s.toString();
  }

  private static String untouched(int n) {
    if (UNTOUCHED[n] == null) UNTOUCHED[n] = seen(house(n));
    return UNTOUCHED[n];
  }

  /** A call on a new house is refused and changes nothing, but for the CLASH that it tells. */
  static void refused(int n, String call, Call made, int want, int clash) {
    SetHouse x = house(n);
    Sentences.due(call + " of " + n + " things", made.of(x), want);
    Sentences.due("clash() after " + call, x.clash(), clash);
    String[] was = untouched(n).split("\n");
    String[] now = seen(x).split("\n");
    for (int i = 0; i < was.length; i++) {
      if (!now[i].equals(was[i])) Sentences.fail(call + " changed what was '" + was[i] + "' to '" + now[i] + "'");
    }
  }

  /** A call that is refused by something else than -3: the CLASH stays, too. */
  static void refused(int n, String call, Call made, int want) {
    refused(n, call, made, want, CLASH);
  }

  // ---- of several refusals the first

  /** The values with which one argument is tried: what each of them would be refused by, 0 if it is taken. */
  static final class Values {
    final int[] value;
    final int[] refusal;

    private Values(int[] taken, int[] outside, int[] nothing, int[] other) {
      int[][] all = {taken, outside, nothing, other};
      int[] by = {0, -1, -11, -12};
      value = new int[taken.length + outside.length + nothing.length + other.length];
      refusal = new int[value.length];
      int i = 0;
      for (int k = 0; k < 4; k++) {
        for (int v : all[k]) {
          value[i] = v;
          refusal[i++] = by[k];
        }
      }
    }
  }

  private static final int[] NO_VALUES = {};

  static Values these(int[] taken, int... outside) {
    return new Values(taken, outside, NO_VALUES, NO_VALUES);
  }

  /** low .. high, both taken, and what stands just outside. */
  static Values range(int low, int high) {
    return these(new int[] {low, high}, low - 1, high + 1, Sentences.MIN, Sentences.MAX);
  }

  static Values place() {
    return these(new int[] {0, 9, 15}, NO_PLACES);
  }

  static Values family() {
    return new Values(new int[] {0, 5, 15}, NO_PLACES, EMPTY, ROWS);
  }

  static Values row() {
    return new Values(ROWS, NO_PLACES, EMPTY, FAMILIES);
  }

  /**
   * A call with each choice of values, of 3 to 6 things: a value out of range is told ahead of what PLACES hold,
   * and of two PLACES the first one first. A choice that nothing refuses is taken: neither -1, -11 nor -12.
   */
  static void inOrder(int n, String name, Call call, Values... values) {
    inOrder(n, name, call, values, new int[values.length], new int[values.length], 0);
  }

  private static void inOrder(int n, String name, Call call, Values[] values, int[] a, int[] refusal, int told) {
    if (told == values.length) {
      one(n, name, call, a.clone(), firstOf(refusal));
      return;
    }
    for (int i = 0; i < values[told].value.length; i++) {
      a[told] = values[told].value[i];
      refusal[told] = values[told].refusal[i];
      inOrder(n, name, call, values, a, refusal, told + 1);
    }
  }

  private static int firstOf(int[] refusal) {
    for (int r : refusal) if (r == -1) return -1;
    for (int r : refusal) if (r != 0) return r;
    return 0;
  }

  private static void one(int n, String name, Call call, int[] a, int want) {
    String told = name + Arrays.toString(a);
    if (want != 0) {
      refused(n, told, (x, none) -> call.of(x, a), want);
      return;
    }
    long got = call.of(house(n), a);
    Sentences.due(told + " of " + n + " things is taken", got == -1 || got == -11 || got == -12 ? got : 0, 0);
  }
}
