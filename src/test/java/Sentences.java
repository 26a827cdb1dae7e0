import java.util.ArrayList;
import java.util.List;

/** What the tests of single sentences share: the sentence that is tested now, what is due, and small houses. */
abstract class Sentences {
  static final int MIN = Integer.MIN_VALUE;
  static final int MAX = Integer.MAX_VALUE;
  /** What a call that threw is taken to have answered: no call of the document answers these. */
  static final long BAD_ARGUMENT = -1001;
  static final long BAD_STATE = -1002;
  static final long BAD_OTHERWISE = -1003;

  /** A sentence, or a part of one, where it stands in the document. */
  record Quote(String section, String words) {}

  private static final List<Quote> QUOTES = new ArrayList<>();
  private static String section = "";
  private static String words = "";
  private static int answers = 0;
  private static int answersBefore = 0;
  private static int wrong = 0;

  static void section(String title) {
    endSentence();
    section = title;
    words = "";
  }

  /** What follows, up to the next sentence, is the test of this one. */
  static void says(String sentence) {
    endSentence();
    words = sentence;
    answersBefore = answers;
    QUOTES.add(new Quote(section, sentence));
  }

  private static void endSentence() {
    if (!words.isEmpty() && answers == answersBefore) fail("this sentence has no test");
  }

  static void fail(String what) {
    wrong++;
    if (wrong <= 200) System.out.println(section + " | " + words + " | " + what);
  }

  static void due(String call, long got, long want) {
    answers++;
    if (got != want) fail(call + " answered " + got + ", due is " + want);
  }

  static List<Quote> quotes() {
    endSentence();
    return QUOTES;
  }

  static int answers() {
    return answers;
  }

  static int wrong() {
    return wrong;
  }

  // ---- small houses

  /** A house of n things with a FAMILY of a KIND at PLACE 0. */
  static SetHouse of(int n, int kind, int t, int... sets) {
    SetHouse x = new SetHouse(n - 3);
    due("make(0, " + kind + ", " + t + ")", x.make(0, kind, t), 0);
    fill(x, 0, sets);
    return x;
  }

  static SetHouse free(int n, int... sets) {
    return of(n, 0, 0, sets);
  }

  /** A house of n things with all SETS in a FREE FAMILY at PLACE 0. */
  static SetHouse full(int n) {
    SetHouse x = free(n);
    due("rest(0, false, 0)", x.rest(0, false, 0), 1 << n);
    return x;
  }

  static void put(SetHouse x, int place, int kind, int t, int... sets) {
    due("make(" + place + ", " + kind + ", " + t + ")", x.make(place, kind, t), 0);
    fill(x, place, sets);
  }

  static void fill(SetHouse x, int place, int... sets) {
    for (int s : sets) due("add(" + place + ", " + s + ") is not refused", Math.min(0, x.add(place, s)), 0);
  }

  static void rowOf(SetHouse x, int place, int sort, long... v) {
    due("row(" + place + ", " + sort + ", " + v.length + ")", x.row(place, sort, v.length), 0);
    for (int i = 0; i < v.length; i++) due("put(" + place + ", " + i + ", " + v[i] + ")", x.put(place, i, v[i]), 0);
  }

  // ---- what stands there

  /** The FAMILY at a PLACE has just these SETS. */
  static void sets(SetHouse x, int place, int... want) {
    due("count(" + place + ", 0)", x.count(place, 0), want.length);
    for (int i = 0; i < want.length; i++) due("set(" + place + ", " + i + ")", x.set(place, i), want[i]);
    due("set(" + place + ", " + want.length + ")", x.set(place, want.length), -2);
  }

  /** The FAMILY at a PLACE is of a KIND, with t (-2: it has none), and has just these SETS. */
  static void family(SetHouse x, int place, int kind, int t, int... want) {
    due("holds(" + place + ")", x.holds(place), kind);
    due("count(" + place + ", 1)", x.count(place, 1), t);
    sets(x, place, want);
  }

  static void row(SetHouse x, int place, long... want) {
    for (int i = 0; i < want.length; i++) due("element(" + place + ", " + i + ")", element(x, place, i), want[i]);
    due("element(" + place + ", " + want.length + ")", element(x, place, want.length), BAD_STATE);
  }

  static void petals(SetHouse x, int... want) {
    for (int i = 0; i < want.length; i++) due("petal(" + i + ")", x.petal(i), want[i]);
    due("petal(" + want.length + ")", x.petal(want.length), -2);
  }

  /** element(), or which exception it threw. */
  static long element(SetHouse x, int place, int i) {
    try {
      return x.element(place, i);
    } catch (RuntimeException e) {
      if (e.getClass() == IllegalArgumentException.class) return BAD_ARGUMENT;
      return e.getClass() == IllegalStateException.class ? BAD_STATE : BAD_OTHERWISE;
    }
  }

  /** A SET can't come, because of another one; the FAMILY stays as it was. */
  static void cannotCome(SetHouse x, int place, int set, int clash) {
    int before = x.count(place, 0);
    due("add(" + place + ", " + set + ")", x.add(place, set), -3);
    due("clash()", x.clash(), clash);
    due("count(" + place + ", 0)", x.count(place, 0), before);
    due("has(" + place + ", " + set + ")", x.has(place, set), 0);
  }

  static void cannotGo(SetHouse x, int place, int set, int clash) {
    int before = x.count(place, 0);
    due("drop(" + place + ", " + set + ")", x.drop(place, set), -3);
    due("clash()", x.clash(), clash);
    due("count(" + place + ", 0)", x.count(place, 0), before);
    due("has(" + place + ", " + set + ")", x.has(place, set), 1);
  }

  // ---- numbers

  static int choose(int n, int k) {
    if (k < 0 || k > n) return 0;
    return k == 0 ? 1 : choose(n - 1, k - 1) + choose(n - 1, k);
  }

  static int factorial(int k) {
    return k == 0 ? 1 : k * factorial(k - 1);
  }

  /** All SETS of SIZE k, by number. */
  static int[] layer(int n, int k) {
    int[] found = new int[choose(n, k)];
    int i = 0;
    for (int s = 0; s < 1 << n; s++) if (Integer.bitCount(s) == k) found[i++] = s;
    return found;
  }

  /** The order in which each of n things becomes itself. */
  static int asItIs(int n) {
    int order = 0;
    for (int i = 0; i < n; i++) order += i << 3 * i;
    return order;
  }

  /** The order in which the last thing comes first. */
  static int backwards(int n) {
    int order = 0;
    for (int i = 0; i < n; i++) order += n - 1 - i << 3 * i;
    return order;
  }

  /** Numbers that are just no order of n things. */
  static int[] noOrders(int n) {
    int as = asItIs(n);
    return new int[] {
      -1, 0, MIN, MAX, -as,
      as - (n - 1 << 3 * (n - 1)),  // n - 1 digits: 0 is there twice
      as + (n << 3 * n),  // n + 1 digits, each another thing
      as + (1 << 3 * n),  // one digit more
      as + (1 << 30), as ^ MIN,
      as + n,  // 0 becomes n, which is no thing
      as + 7,
      as + 1,  // 1 is there twice, 0 is not
      as + (1 << 3 * (n - 1)),  // the last one becomes n
      as - (1 << 3 * (n - 1)),  // n - 2 is there twice
    };
  }
}
