import java.lang.reflect.Method;

/** Each promise of the document on its own: ordinary inputs, the edges that it names, and wrong inputs. */
public final class PromisesTest {
  private static final int MIN = Integer.MIN_VALUE;
  private static final int MAX = Integer.MAX_VALUE;
  /** Things 0, 1, 2, 3, .. in their order, for n 3 to 6. */
  private static final int AS_IT_IS3 = 0210;
  private static final int AS_IT_IS4 = 03210;
  private static final int AS_IT_IS5 = 043210;
  private static final int AS_IT_IS6 = 0543210;

  private static int wrong = 0;
  private static int calls = 0;
  private static String promise = "";

  private static void due(String call, long got, long want) {
    calls++;
    if (got == want) return;
    wrong++;
    System.out.println(promise + ": " + call + " answered " + got + ", due is " + want);
  }

  /** A house of n things with a FREE family at place 0. */
  private static SetHouse house(int n, int... sets) {
    SetHouse x = new SetHouse(n - 3);
    x.make(0, 0, 0);
    fill(x, 0, sets);
    return x;
  }

  private static void fill(SetHouse x, int place, int... sets) {
    for (int s : sets) {
      int before = x.count(place, 0) + 1 - x.has(place, s);
      due("add(" + place + ", " + s + ") as the test is set up", x.add(place, s), before);
    }
  }

  /** The family at a place has just these sets. */
  private static void sets(SetHouse x, int place, int... want) {
    due("count(" + place + ", 0)", x.count(place, 0), want.length);
    for (int i = 0; i < want.length; i++) due("set(" + place + ", " + i + ")", x.set(place, i), want[i]);
    due("set(" + place + ", " + want.length + ")", x.set(place, want.length), -2);
  }

  /** A family at 0, a row of 64 bytes at 1, nothing at 2. */
  private static SetHouse threePlaces() {
    SetHouse x = house(4, 3, 5);
    x.row(1, 6, 64);
    return x;
  }

  private interface Asked {
    long of(SetHouse x, int place);
  }

  /** What a call that asks for a FAMILY at a place says where there is none. */
  private static void familyAsked(String call, Asked asked) {
    SetHouse x = threePlaces();
    for (int place : new int[] {-1, 16, MIN, MAX}) due(call + " at " + place, asked.of(x, place), -1);
    due(call + " of nothing", asked.of(x, 2), -11);
    due(call + " of nothing, at the last place", asked.of(x, 15), -11);
    due(call + " of a row", asked.of(x, 1), -12);
    due("clash() after refusals that are not -3", x.clash(), -2);
    untouched(x);
  }

  /** Refused calls have changed nothing of threePlaces(). */
  private static void untouched(SetHouse x) {
    sets(x, 0, 3, 5);
    due("holds(0)", x.holds(0), 0);
    due("holds(1)", x.holds(1), 6);
    for (int place = 2; place < 16; place++) due("holds(" + place + ")", x.holds(place), -2);
  }

  /** A wrong number is told ahead of what a place holds. */
  private static void outOfRange(String call, Asked asked) {
    SetHouse x = threePlaces();
    for (int place = 0; place < 3; place++) due(call + " at " + place, asked.of(x, place), -1);
    untouched(x);
  }

  private static void promise1() {
    int[] things = {0, 1, 2, 3, 4, 7, -1, -2, -3, -4, -5, MAX, MIN};
    int[] n = {3, 4, 5, 6, 3, 6, 6, 5, 4, 3, 6, 6, 3};
    for (int i = 0; i < things.length; i++) {
      SetHouse x = new SetHouse(things[i]);
      for (int place = 0; place < 16; place++) due("holds(" + place + ")", x.holds(place), -2);
      due("rank(2^n - 1) of " + things[i], x.rank((1 << n[i]) - 1), 0);
      due("rank(2^n) of " + things[i], x.rank(1 << n[i]), -1);
      due("clash()", x.clash(), -2);
      due("petal(0)", x.petal(0), -2);
    }
  }

  private static void promise2() {
    SetHouse x = new SetHouse(1);
    for (int kind = 0; kind <= 4; kind++) {
      due("make(" + kind + ")", x.make(kind, kind, 4), 0);
      due("holds(" + kind + ")", x.holds(kind), kind);
      sets(x, kind);
    }
    int[] any = {MIN, -1, 5, 64, MAX};
    for (int t : any) {
      due("make(0, 0, t)", x.make(0, 0, t), 0);
      due("make(1, 1, t)", x.make(1, 1, t), 0);
      due("make(3, 3, t)", x.make(3, 3, t), 0);
      due("make(5, 2, " + t + ")", x.make(5, 2, t), -1);
      due("make(5, 4, " + t + ")", x.make(5, 4, t), -1);
      due("make(" + t + ")", x.make(t == 5 ? 16 : t, 0, 0), -1);
      due("make(5, kind " + t + ")", x.make(5, t, 0), -1);
    }
    due("make(5, 5, 0)", x.make(5, 5, 0), -1);
    due("holds(5)", x.holds(5), -2);
    due("make(15, 2, 0)", x.make(15, 2, 0), 0);
    due("count(15, 1)", x.count(15, 1), 0);
    due("make(15, 4, 4)", x.make(15, 4, 4), 0);
    due("count(15, 1)", x.count(15, 1), 4);
    fill(x, 15, 15);
    due("make(15, 3, 0)", x.make(15, 3, 0), 0);
    sets(x, 15);
    x.row(15, 7, 3);
    due("make(15, 1, 0) where a row was", x.make(15, 1, 0), 0);
    due("holds(15)", x.holds(15), 1);
  }

  private static void promise3() {
    SetHouse x = house(4, 3, 6);
    due("cross(1, 0, 1)", x.cross(1, 0, 1), 0);
    due("holds(1)", x.holds(1), 5);
    due("count(1, 1)", x.count(1, 1), 1);
    due("count(1, 2)", x.count(1, 2), 2);
    sets(x, 1);
    fill(x, 0, 8);
    due("count(1, 2) as it was then", x.count(1, 2), 2);
    due("add(1, 2)", x.add(1, 2), 1);
    due("cross(0, 0, 0) with what was there", x.cross(0, 0, 0), 0);
    sets(x, 0);
    due("count(0, 2)", x.count(0, 2), 3);
    due("cross(1, 1, 4)", x.cross(1, 1, 4), 0);
    due("count(1, 2)", x.count(1, 2), 1);
    due("cross(1, 0, 5)", x.cross(1, 0, 5), -1);
    due("cross(1, 0, -1)", x.cross(1, 0, -1), -1);
    due("cross(16, 0, 1)", x.cross(16, 0, 1), -1);
    due("cross(-1, 9, 1)", x.cross(-1, 9, 1), -1);
    due("count(1, 1) after refusals", x.count(1, 1), 4);
    familyAsked("cross(0, .., 1)", (y, place) -> place == 0 ? 0 : y.cross(0, place, 1));
    outOfRange("cross(0, .., 5)", (y, place) -> y.cross(0, place, 5));
    outOfRange("cross(16, .., 1)", (y, place) -> y.cross(16, place, 1));
  }

  private static void promise4() {
    SetHouse x = house(3);
    due("add(0, 7)", x.add(0, 7), 1);
    due("add(0, 0)", x.add(0, 0), 2);
    due("add(0, 7) again", x.add(0, 7), 2);
    familyAsked("add(.., 3)", (y, place) -> y.add(place, 3));
    outOfRange("add(.., 16)", (y, place) -> y.add(place, 16));
    outOfRange("add(.., -1)", (y, place) -> y.add(place, -1));
    outOfRange("add(.., MAX)", (y, place) -> y.add(place, MAX));
    addApart();
    addMeet();
    addDown();
    addLayer();
    addCross();
  }

  private static void refusedAdd(SetHouse x, int place, int set, int clash) {
    int before = x.count(place, 0);
    due("add(" + place + ", " + set + ")", x.add(place, set), -3);
    due("clash()", x.clash(), clash);
    due("count(" + place + ", 0)", x.count(place, 0), before);
    due("has(" + place + ", " + set + ")", x.has(place, set), 0);
  }

  private static void addApart() {
    SetHouse x = new SetHouse(1);
    x.make(0, 1, 0);
    fill(x, 0, 3, 5, 12);
    refusedAdd(x, 0, 1, 3);
    refusedAdd(x, 0, 4, 5);
    refusedAdd(x, 0, 15, 3);
    refusedAdd(x, 0, 13, 5);
    refusedAdd(x, 0, 0, 3);
    due("add(0, 5) again", x.add(0, 5), 3);
    due("add(0, 10)", x.add(0, 10), 4);
    x.make(0, 1, 0);
    due("add(0, 0)", x.add(0, 0), 1);
    refusedAdd(x, 0, 8, 0);
  }

  private static void addMeet() {
    SetHouse x = new SetHouse(2);
    x.make(0, 2, 2);
    fill(x, 0, 7, 11);
    refusedAdd(x, 0, 1, 1);
    refusedAdd(x, 0, 0, 0);
    refusedAdd(x, 0, 5, 11);
    refusedAdd(x, 0, 28, 7);
    due("add(0, 3)", x.add(0, 3), 3);
    refusedAdd(x, 0, 16, 16);
    x.make(0, 2, 0);
    fill(x, 0, 0, 1, 2, 31);
    x.make(0, 2, 5);
    due("add(0, 31)", x.add(0, 31), 1);
    refusedAdd(x, 0, 15, 15);
  }

  private static void addDown() {
    SetHouse x = new SetHouse(0);
    x.make(0, 3, 0);
    refusedAdd(x, 0, 5, 0);
    fill(x, 0, 0, 4, 2);
    refusedAdd(x, 0, 7, 1);
    refusedAdd(x, 0, 5, 1);
    due("add(0, 6)", x.add(0, 6), 4);
    fill(x, 0, 1, 3);
    refusedAdd(x, 0, 7, 5);
  }

  private static void addLayer() {
    SetHouse x = new SetHouse(0);
    x.make(0, 4, 2);
    fill(x, 0, 3, 6);
    refusedAdd(x, 0, 7, 7);
    refusedAdd(x, 0, 0, 0);
    refusedAdd(x, 0, 4, 4);
    due("add(0, 5)", x.add(0, 5), 3);
    x.make(0, 4, 0);
    due("add(0, 0)", x.add(0, 0), 1);
  }

  private static void addCross() {
    SetHouse x = house(5, 3, 24);
    x.cross(1, 0, 1);
    refusedAdd(x, 1, 0, 0);
    refusedAdd(x, 1, 4, 3);
    refusedAdd(x, 1, 7, 24);
    due("add(1, 9)", x.add(1, 9), 1);
    due("add(1, 10)", x.add(1, 10), 2);
    // with its own 9 nothing in common, and with the partner's 3 neither: its own is told
    refusedAdd(x, 1, 20, 9);
    refusedAdd(x, 1, 17, 10);
    refusedAdd(x, 1, 8, 3);
    due("add(1, 9) again", x.add(1, 9), 2);
    x.make(2, 0, 0);
    x.cross(3, 2, 2);
    fill(x, 3, 3, 7);
    refusedAdd(x, 3, 1, 1);
    refusedAdd(x, 3, 5, 3);
    x = house(3, 0, 7);
    x.cross(1, 0, 1);
    refusedAdd(x, 1, 7, 0);
  }

  private static void promise5() {
    SetHouse x = house(3, 0, 3, 7);
    due("drop(0, 3)", x.drop(0, 3), 2);
    due("drop(0, 3) again", x.drop(0, 3), -2);
    sets(x, 0, 0, 7);
    x.make(1, 3, 0);
    fill(x, 1, 0, 1, 2, 4, 3, 5);
    due("drop(1, 1)", x.drop(1, 1), -3);
    due("clash()", x.clash(), 3);
    due("drop(1, 4)", x.drop(1, 4), -3);
    due("clash()", x.clash(), 5);
    due("drop(1, 0)", x.drop(1, 0), -3);
    due("clash()", x.clash(), 1);
    due("drop(1, 6)", x.drop(1, 6), -2);
    sets(x, 1, 0, 1, 2, 3, 4, 5);
    due("drop(1, 3)", x.drop(1, 3), 5);
    due("drop(1, 2)", x.drop(1, 2), 4);
    x.make(2, 2, 1);
    fill(x, 2, 1, 3);
    due("drop(2, 1) of MEET", x.drop(2, 1), 1);
    x.make(3, 1, 0);
    fill(x, 3, 1, 2);
    due("drop(3, 1) of APART", x.drop(3, 1), 1);
    x.make(4, 4, 1);
    fill(x, 4, 1, 2);
    due("drop(4, 2) of LAYER", x.drop(4, 2), 1);
    x.cross(5, 4, 1);
    fill(x, 5, 1, 3);
    due("drop(5, 1) of CROSS", x.drop(5, 1), 1);
    due("clash()", x.clash(), 1);
    familyAsked("drop(.., 2)", (y, place) -> y.drop(place, 2));
    outOfRange("drop(.., 16)", (y, place) -> y.drop(place, 16));
    outOfRange("drop(.., -1)", (y, place) -> y.drop(place, -1));
  }

  private static void promise6() {
    SetHouse x = house(3, 1, 2);
    due("clash()", x.clash(), -2);
    x.make(1, 4, 1);
    x.add(1, 3);
    due("clash()", x.clash(), 3);
    x.add(1, 9);
    x.add(9, 1);
    x.drop(1, 4);
    x.add(1, 1);
    due("is(1, 4, 1)", x.is(1, 4, 1), 1);
    due("clash() stays", x.clash(), 3);
    x.add(1, 6);
    due("clash() of the latest", x.clash(), 6);
    due("is(0, 2, 1)", x.is(0, 2, 1), 0);
    due("clash() of is()", x.clash(), 1 + 64 * 2);
    x.empty(1);
    due("clash() stays", x.clash(), 1 + 64 * 2);
  }

  private static void promise7() {
    SetHouse x = threePlaces();
    due("empty(2)", x.empty(2), 0);
    due("empty(0)", x.empty(0), 1);
    due("empty(0) again", x.empty(0), 0);
    due("holds(0)", x.holds(0), -2);
    due("empty(1)", x.empty(1), 1);
    due("holds(1)", x.holds(1), -2);
    due("put(1, 0, 1)", x.put(1, 0, 1L), -11);
    for (int place : new int[] {-1, 16, MIN, MAX}) due("empty(" + place + ")", x.empty(place), -1);
    x.make(0, 0, 0);
    sets(x, 0);
  }

  private static void promise8() {
    SetHouse x = new SetHouse(3);
    due("holds(15)", x.holds(15), -2);
    for (int kind = 0; kind <= 4; kind++) {
      x.make(3, kind, 2);
      due("holds(3)", x.holds(3), kind);
    }
    x.cross(3, 3, 0);
    due("holds(3)", x.holds(3), 5);
    for (int sort = 6; sort <= 8; sort++) {
      x.row(3, sort, 0);
      due("holds(3)", x.holds(3), sort);
    }
    for (int place : new int[] {-1, 16, MIN, MAX}) due("holds(" + place + ")", x.holds(place), -1);
  }

  private static void promise9() {
    SetHouse x = house(6, 0, 1, 2, 3, 7, 15, 31, 62, 63);
    int[] want = {9, -2, -2, 1, 2, 1, 1, 1, 2, 1};
    for (int what = 0; what <= 9; what++) due("count(0, " + what + ")", x.count(0, what), want[what]);
    x.make(1, 1, 3);
    x.make(2, 2, 3);
    x.make(3, 3, 3);
    x.make(4, 4, 6);
    x.cross(5, 0, 2);
    x.cross(6, 1, 0);
    int[] t = {-2, -2, 3, -2, 6, 2, 0};
    int[] partner = {-2, -2, -2, -2, -2, 9, 0};
    for (int place = 0; place < 7; place++) {
      due("count(" + place + ", 1)", x.count(place, 1), t[place]);
      due("count(" + place + ", 2)", x.count(place, 2), partner[place]);
    }
    SetHouse small = house(3, 7, 6);
    due("count(0, 6) of three things", small.count(0, 6), 1);
    due("count(0, 9) of three things", small.count(0, 9), 0);
    familyAsked("count(.., 0)", (y, place) -> y.count(place, 0));
    familyAsked("count(.., 9)", (y, place) -> y.count(place, 9));
    outOfRange("count(.., 10)", (y, place) -> y.count(place, 10));
    outOfRange("count(.., -1)", (y, place) -> y.count(place, -1));
  }

  private static void promise10() {
    SetHouse x = house(6, 0, 63, 31);
    int[] want = {0, 63, 31, 1, 62, 32};
    for (int i = 0; i < 6; i++) due("has(0, " + want[i] + ")", x.has(0, want[i]), i < 3 ? 1 : 0);
    due("has(0, 64)", x.has(0, 64), -1);
    familyAsked("has(.., 0)", (y, place) -> y.has(place, 0));
    outOfRange("has(.., 16)", (y, place) -> y.has(place, 16));
    outOfRange("has(.., -1)", (y, place) -> y.has(place, -1));
  }

  private static void promise11() {
    SetHouse x = house(6, 63, 5, 0, 40);
    sets(x, 0, 0, 5, 40, 63);
    due("set(0, MAX)", x.set(0, MAX), -2);
    due("set(0, 64)", x.set(0, 64), -2);
    familyAsked("set(.., 0)", (y, place) -> y.set(place, 0));
    outOfRange("set(.., -1)", (y, place) -> y.set(place, -1));
    outOfRange("set(.., MIN)", (y, place) -> y.set(place, MIN));
    SetHouse whole = house(6);
    whole.rest(0, false, 0);
    for (int i = 0; i < 64; i++) due("set(0, " + i + ") of all", whole.set(0, i), i);
  }

  private static void isNot(SetHouse x, int kind, int t, int lesser, int other) {
    due("is(0, " + kind + ", " + t + ")", x.is(0, kind, t), 0);
    due("clash()", x.clash(), lesser + 64 * other);
  }

  private static void promise12() {
    SetHouse x = house(4, 3, 5, 7, 13);
    due("is(0, 0, 99)", x.is(0, 0, 99), 1);
    isNot(x, 1, 99, 3, 7);
    due("is(0, 2, 1)", x.is(0, 2, 1), 1);
    isNot(x, 2, 2, 3, 5);
    isNot(x, 2, 3, 3, 3);
    isNot(x, 4, 2, 7, 7);
    isNot(x, 4, 3, 3, 3);
    isNot(x, 3, 0, 0, 3);
    due("is(0, 2, 0)", x.is(0, 2, 0), 1);
    sets(x, 0, 3, 5, 7, 13);

    x = house(4, 6, 1, 7);
    isNot(x, 2, 1, 1, 6);
    isNot(x, 2, 2, 1, 1);
    isNot(x, 1, 0, 1, 7);

    // 3 and 12 share nothing; the lesser is told ahead of 8, which has too little in itself
    x = house(4, 3, 12, 8);
    isNot(x, 2, 2, 3, 8);
    x = house(4, 3, 7, 12, 8);
    isNot(x, 2, 1, 3, 8);

    x = house(3);
    for (int kind = 0; kind <= 4; kind++) due("is(0, " + kind + ", 3) of none", x.is(0, kind, 3), 1);
    x = house(3, 0, 7);
    isNot(x, 1, 0, 0, 7);
    isNot(x, 2, 1, 0, 0);
    isNot(x, 4, 0, 7, 7);
    // neighbours by number: none is passed over
    x = house(4, 1, 2, 3);
    isNot(x, 2, 1, 1, 2);
    isNot(x, 1, 0, 1, 3);
    isNot(x, 4, 1, 3, 3);
    x = house(4, 3, 7, 11, 12, 15);
    isNot(x, 2, 2, 3, 12);
    x = house(4, 7, 11, 13, 14);
    isNot(x, 2, 3, 7, 11);
    due("is(0, 2, 2)", x.is(0, 2, 2), 1);
    due("is(0, 1, 0)", x.is(0, 1, 0), 1);
    due("is(0, 4, 3)", x.is(0, 4, 3), 1);
    x = house(5, 9, 10, 17);
    isNot(x, 2, 1, 10, 17);
    x = house(4, 0, 1, 2);
    isNot(x, 4, 1, 0, 0);
    isNot(x, 1, 0, 0, 1);
    x.make(9, 0, 0);
    due("is(9, 4, 1)", x.is(9, 4, 1), 1);
    fill(x, 9, 15);
    due("is(9, 4, 1)", x.is(9, 4, 1), 0);
    due("clash()", x.clash(), 15 * 65);
    isDown();
    isWrong();
  }

  /** The first SET that lacks something is told, and the first that it lacks: not the least that is lacking. */
  private static void isDown() {
    SetHouse x = house(3, 0, 1, 2, 3, 4);
    due("is(0, 3, 0)", x.is(0, 3, 0), 1);
    x = house(3, 0, 6, 7);
    isNot(x, 3, 0, 2, 6);
    x = house(3, 0, 2, 6, 7);
    isNot(x, 3, 0, 4, 6);
    x = house(3, 0, 2, 4, 6, 7);
    isNot(x, 3, 0, 1, 7);
    x = house(3, 0, 1, 2, 6, 7);
    isNot(x, 3, 0, 4, 6);
    x = house(3, 7);
    isNot(x, 3, 0, 0, 7);
    x = house(3, 3, 5);
    isNot(x, 3, 0, 0, 3);
    x = house(4, 0, 6, 7, 10, 11, 12, 13, 14, 15);
    isNot(x, 3, 0, 2, 6);
    // 12 lacks 4 and 8; 13, the next one, lacks 1, which is less
    x = house(4, 0, 12, 13);
    isNot(x, 3, 0, 4, 12);
    x = house(6, 0, 62, 63);
    isNot(x, 3, 0, 2, 62);
    x = house(6);
    x.rest(0, false, 0);
    due("is(0, 3, 0) of all", x.is(0, 3, 0), 1);
    x.drop(0, 31);
    isNot(x, 3, 0, 31, 63);
    x.drop(0, 32);
    isNot(x, 3, 0, 32, 33);
  }

  private static void isWrong() {
    familyAsked("is(.., 0, 0)", (y, place) -> y.is(place, 0, 0));
    familyAsked("is(.., 4, 4)", (y, place) -> y.is(place, 4, 4));
    outOfRange("is(.., 5, 0)", (y, place) -> y.is(place, 5, 0));
    outOfRange("is(.., -1, 0)", (y, place) -> y.is(place, -1, 0));
    outOfRange("is(.., 2, 5)", (y, place) -> y.is(place, 2, 5));
    outOfRange("is(.., 4, 5)", (y, place) -> y.is(place, 4, 5));
    outOfRange("is(.., 2, -1)", (y, place) -> y.is(place, 2, -1));
    SetHouse x = threePlaces();
    due("is(0, 1, 5)", x.is(0, 1, 5), 1);
    due("is(0, 3, -1)", x.is(0, 3, -1), 0);
  }

  private static void promise13() {
    SetHouse x = house(4, 0, 5, 14);
    due("shadow(0, 1)", x.shadow(0, 1), 5);
    sets(x, 1, 1, 4, 6, 10, 12);
    due("holds(1)", x.holds(1), 0);
    sets(x, 0, 0, 5, 14);
    x.make(2, 4, 3);
    fill(x, 2, 7, 13);
    due("shadow(2, 3)", x.shadow(2, 3), 5);
    sets(x, 3, 3, 5, 6, 9, 12);
    due("holds(3)", x.holds(3), 4);
    due("count(3, 1)", x.count(3, 1), 2);
    x.make(4, 4, 0);
    fill(x, 4, 0);
    due("shadow(4, 4)", x.shadow(4, 4), 0);
    due("holds(4)", x.holds(4), 0);
    x.make(5, 4, 1);
    due("shadow(5, 5)", x.shadow(5, 5), 0);
    due("holds(5)", x.holds(5), 4);
    due("count(5, 1)", x.count(5, 1), 0);
    x.make(6, 2, 1);
    fill(x, 6, 3);
    due("shadow(6, 6) in its own place", x.shadow(6, 6), 2);
    sets(x, 6, 1, 2);
    due("holds(6)", x.holds(6), 0);
    familyAsked("shadow(.., 3)", (y, place) -> y.shadow(place, 3));
    outOfRange("shadow(.., 16)", (y, place) -> y.shadow(place, 16));
    outOfRange("shadow(.., -1)", (y, place) -> y.shadow(place, -1));
  }

  private static void promise14() {
    SetHouse x = house(4, 15, 5, 1);
    due("up(0, 1)", x.up(0, 1), 5);
    sets(x, 1, 3, 5, 7, 9, 13);
    due("holds(1)", x.holds(1), 0);
    x.make(2, 4, 1);
    fill(x, 2, 8);
    due("up(2, 2)", x.up(2, 2), 3);
    sets(x, 2, 9, 10, 12);
    due("holds(2)", x.holds(2), 4);
    due("count(2, 1)", x.count(2, 1), 2);
    x.make(3, 4, 4);
    fill(x, 3, 15);
    due("up(3, 3)", x.up(3, 3), 0);
    due("holds(3)", x.holds(3), 0);
    x.make(4, 4, 3);
    due("up(4, 4)", x.up(4, 4), 0);
    due("holds(4)", x.holds(4), 4);
    due("count(4, 1)", x.count(4, 1), 4);
    familyAsked("up(.., 3)", (y, place) -> y.up(place, 3));
    outOfRange("up(.., 16)", (y, place) -> y.up(place, 16));
    outOfRange("up(.., -1)", (y, place) -> y.up(place, -1));
  }

  private static void promise15() {
    SetHouse x = house(4, 5, 8);
    due("closed(0, false, 1)", x.closed(0, false, 1), 5);
    sets(x, 1, 0, 1, 4, 5, 8);
    due("holds(1)", x.holds(1), 3);
    due("closed(0, true, 2)", x.closed(0, true, 2), 10);
    sets(x, 2, 5, 7, 8, 9, 10, 11, 12, 13, 14, 15);
    due("holds(2)", x.holds(2), 0);
    x.make(3, 1, 0);
    due("closed(3, false, 3)", x.closed(3, false, 3), 0);
    due("holds(3)", x.holds(3), 3);
    due("closed(3, true, 3)", x.closed(3, true, 3), 0);
    due("holds(3)", x.holds(3), 0);
    x.row(5, 7, 2);
    due("closed(0, false, 5) where a row was", x.closed(0, false, 5), 5);
    due("holds(5)", x.holds(5), 3);
    familyAsked("closed(.., false, 3)", (y, place) -> y.closed(place, false, 3));
    familyAsked("closed(.., true, 3)", (y, place) -> y.closed(place, true, 3));
    outOfRange("closed(.., true, 16)", (y, place) -> y.closed(place, true, 16));
    outOfRange("closed(.., false, -1)", (y, place) -> y.closed(place, false, -1));
  }

  private static void promise16() {
    SetHouse x = house(4, 1, 3, 7, 12, 8, 6);
    due("ends(0, false, 1)", x.ends(0, false, 1), 3);
    sets(x, 1, 1, 6, 8);
    due("holds(1)", x.holds(1), 1);
    due("ends(0, true, 2)", x.ends(0, true, 2), 2);
    sets(x, 2, 7, 12);
    due("holds(2)", x.holds(2), 1);
    fill(x, 0, 0, 15);
    due("ends(0, false, 1)", x.ends(0, false, 1), 1);
    sets(x, 1, 0);
    due("ends(0, true, 0)", x.ends(0, true, 0), 1);
    sets(x, 0, 15);
    // far apart in size: none of the sizes between is there
    x = house(6, 0, 63);
    x.ends(0, true, 1);
    sets(x, 1, 63);
    x.ends(0, false, 1);
    sets(x, 1, 0);
    x.make(2, 0, 0);
    fill(x, 2, 1, 2, 3);
    due("ends(2, false, 3)", x.ends(2, false, 3), 2);
    sets(x, 3, 1, 2);
    familyAsked("ends(.., false, 3)", (y, place) -> y.ends(place, false, 3));
    outOfRange("ends(.., true, 16)", (y, place) -> y.ends(place, true, 16));
    outOfRange("ends(.., false, -1)", (y, place) -> y.ends(place, false, -1));
  }

  private static void promise17() {
    SetHouse x = house(4, 1, 6, 12);
    x.make(1, 2, 1);
    fill(x, 1, 6, 3);
    int[][] want = {{6}, {1, 3, 6, 12}, {1, 12}, {1, 3, 12}, {0, 1, 2, 4, 6}, {3, 6, 7, 14, 15}};
    for (int how = 0; how <= 5; how++) {
      due("mix(0, 1, " + how + ", 2)", x.mix(0, 1, how, 2), want[how].length);
      sets(x, 2, want[how]);
      due("holds(2)", x.holds(2), 0);
    }
    due("mix(1, 0, 2, 3)", x.mix(1, 0, 2, 3), 1);
    sets(x, 3, 3);
    x.make(4, 0, 0);
    due("mix(0, 4, 4, 5)", x.mix(0, 4, 4, 5), 0);
    due("mix(0, 4, 5, 5)", x.mix(0, 4, 5, 5), 0);
    due("mix(0, 0, 3, 0)", x.mix(0, 0, 3, 0), 0);
    SetHouse small = house(3, 3, 6);
    small.make(1, 0, 0);
    fill(small, 1, 0, 1, 2);
    due("mix(0, 1, 4, 2)", small.mix(0, 1, 4, 2), 3);
    sets(small, 2, 0, 1, 2);
    due("mix(0, 1, 5, 2)", small.mix(0, 1, 5, 2), 3);
    sets(small, 2, 3, 6, 7);
    twoAsked("mix(.., .., 0, 3)", (y, a, b) -> y.mix(a, b, 0, 3));
    outOfRange("mix(.., 0, 6, 3)", (y, place) -> y.mix(place, 0, 6, 3));
    outOfRange("mix(.., 0, -1, 3)", (y, place) -> y.mix(place, 0, -1, 3));
    outOfRange("mix(.., 0, 0, 16)", (y, place) -> y.mix(place, 0, 0, 16));
    outOfRange("mix(.., 0, 0, -1)", (y, place) -> y.mix(place, 0, 0, -1));
  }

  private interface TwoAsked {
    long of(SetHouse x, int place, int other);
  }

  /** A call that asks for two FAMILIES looks at the first one first. */
  private static void twoAsked(String call, TwoAsked asked) {
    familyAsked(call + " second 0", (y, place) -> asked.of(y, place, 0));
    familyAsked(call + " first 0", (y, place) -> asked.of(y, 0, place));
    outOfRange(call + " second 16", (y, place) -> asked.of(y, place, 16));
    outOfRange(call + " first -1", (y, place) -> asked.of(y, -1, place));
    SetHouse x = threePlaces();
    due(call + " row, nothing", asked.of(x, 1, 2), -12);
    due(call + " nothing, row", asked.of(x, 2, 1), -11);
  }

  private static void promise18() {
    SetHouse x = house(3, 0, 3, 6);
    due("rest(0, false, 1)", x.rest(0, false, 1), 5);
    sets(x, 1, 1, 2, 4, 5, 7);
    due("rest(0, true, 2)", x.rest(0, true, 2), 3);
    sets(x, 2, 1, 4, 7);
    x.make(3, 4, 1);
    fill(x, 3, 1);
    due("rest(3, true, 3)", x.rest(3, true, 3), 1);
    due("holds(3)", x.holds(3), 0);
    sets(x, 3, 6);
    x = house(6);
    due("rest(0, true, 1)", x.rest(0, true, 1), 0);
    due("rest(0, false, 0)", x.rest(0, false, 0), 64);
    due("rest(0, true, 1)", x.rest(0, true, 1), 64);
    due("rest(0, false, 0)", x.rest(0, false, 0), 0);
    familyAsked("rest(.., false, 3)", (y, place) -> y.rest(place, false, 3));
    familyAsked("rest(.., true, 3)", (y, place) -> y.rest(place, true, 3));
    outOfRange("rest(.., true, 16)", (y, place) -> y.rest(place, true, 16));
    outOfRange("rest(.., false, -1)", (y, place) -> y.rest(place, false, -1));
  }

  private static void promise19() {
    SetHouse x = house(4, 5, 6, 13, 8);
    due("trace(0, 6, 1)", x.trace(0, 6, 1), 3);
    sets(x, 1, 0, 4, 6);
    due("trace(0, 0, 1)", x.trace(0, 0, 1), 1);
    sets(x, 1, 0);
    due("trace(0, 15, 1)", x.trace(0, 15, 1), 4);
    x.make(2, 4, 2);
    fill(x, 2, 3);
    due("trace(2, 3, 2)", x.trace(2, 3, 2), 1);
    due("holds(2)", x.holds(2), 0);
    x.make(2, 0, 0);
    due("trace(2, 3, 2)", x.trace(2, 3, 2), 0);
    familyAsked("trace(.., 3, 3)", (y, place) -> y.trace(place, 3, 3));
    outOfRange("trace(.., 16, 3)", (y, place) -> y.trace(place, 16, 3));
    outOfRange("trace(.., -1, 3)", (y, place) -> y.trace(place, -1, 3));
    outOfRange("trace(.., 3, 16)", (y, place) -> y.trace(place, 3, 16));
  }

  private static void promise20() {
    // 0 becomes 1, 1 becomes 2, 2 becomes 0
    SetHouse x = house(3, 1, 6, 7);
    due("turned(0, 0021, 1)", x.turned(0, 0021, 1), 3);
    sets(x, 1, 2, 5, 7);
    SetHouse low = house(3, 0, 1, 2, 3);
    due("turned(0, 0021, 1)", low.turned(0, 0021, 1), 4);
    sets(low, 1, 0, 2, 4, 6);
    int[] t = {0, 0, 1, 0, 2};
    for (int kind = 0; kind <= 4; kind++) {
      x.make(2, kind, t[kind]);
      x.turned(2, 0021, 3);
      due("holds(3)", x.holds(3), kind);
      due("count(3, 1)", x.count(3, 1), kind == 2 || kind == 4 ? t[kind] : -2);
    }
    x.cross(2, 0, 1);
    fill(x, 2, 7);
    due("turned(2, 0210, 2)", x.turned(2, AS_IT_IS3, 2), 1);
    due("holds(2)", x.holds(2), 2);
    due("count(2, 1)", x.count(2, 1), 1);
    due("count(2, 2)", x.count(2, 2), -2);
    familyAsked("turned(.., turn, 3)", (y, place) -> y.turned(place, AS_IT_IS4, 3));
    int[] none = {0, 03211, 03214, 013210, -03210, AS_IT_IS3, AS_IT_IS5, MIN, MAX, 07210, AS_IT_IS4 + (1 << 30)};
    for (int turn : none) outOfRange("turned(.., " + turn + ", 3)", (y, place) -> y.turned(place, turn, 3));
    outOfRange("turned(.., turn, 16)", (y, place) -> y.turned(place, AS_IT_IS4, 16));
  }

  private static void promise21() {
    SetHouse x = house(4, 2, 6, 5, 10);
    due("push(0, 1, 0)", x.push(0, 1, 0), 2);
    sets(x, 0, 1, 5, 6, 9);
    due("push(0, 0, 3) upwards", x.push(0, 0, 3), 2);
    sets(x, 0, 6, 8, 9, 12);
    x.make(1, 4, 2);
    fill(x, 1, 10, 12);
    due("push(1, 3, 0)", x.push(1, 3, 0), 2);
    sets(x, 1, 3, 5);
    due("holds(1)", x.holds(1), 4);
    due("count(1, 1)", x.count(1, 1), 2);
    for (int kind = 0; kind < 4; kind++) {
      x.make(2, kind, 0);
      due("push(2, 1, 0) of KIND " + kind, x.push(2, 1, 0), 0);
      due("holds(2)", x.holds(2), 0);
    }
    x.cross(2, 0, 1);
    due("push(2, 1, 0) of CROSS", x.push(2, 1, 0), 0);
    due("holds(2)", x.holds(2), 0);
    familyAsked("push(.., 1, 0)", (y, place) -> place == 0 ? 0 : y.push(place, 1, 0));
    outOfRange("push(.., 1, 1)", (y, place) -> y.push(place, 1, 1));
    outOfRange("push(.., 4, 1)", (y, place) -> y.push(place, 4, 1));
    outOfRange("push(.., 1, 4)", (y, place) -> y.push(place, 1, 4));
    outOfRange("push(.., -1, 1)", (y, place) -> y.push(place, -1, 1));
    outOfRange("push(.., 1, -1)", (y, place) -> y.push(place, 1, -1));
  }

  private static void promise22() {
    SetHouse x = house(3, 4);
    due("pushed(0)", x.pushed(0), 1);
    sets(x, 0, 1);
    x = house(4, 12);
    // 1 to 0: no. 2 to 0: 9. 2 to 1: no. 3 to 0: no. 3 to 1: 3.
    due("pushed(0)", x.pushed(0), 2);
    sets(x, 0, 3);
    x = house(4, 6, 10, 12);
    // 1 to 0: 5, 9, 12. 2 to 0: no, 9 is there. 2 to 1: 3, 9, 10. 3 to 0, 3 to 1: no. 3 to 2: 3, 5, 6.
    due("pushed(0)", x.pushed(0), 3);
    sets(x, 0, 3, 5, 6);
    due("pushed(0) again", x.pushed(0), 0);
    SetHouse six = house(6, 48, 56);
    // 48: 1 to 0 no; 4 to 0: 33; 5 to 1: 3. 56: 3 to 0: 49; 4 to 1: 35; 5 to 2: 7. Each PUSH counts once.
    due("pushed(0) of six", six.pushed(0), 5);
    sets(six, 0, 3, 7);
    x.make(1, 4, 1);
    fill(x, 1, 8);
    due("pushed(1)", x.pushed(1), 1);
    due("holds(1)", x.holds(1), 4);
    due("count(1, 1)", x.count(1, 1), 1);
    for (int kind = 0; kind < 4; kind++) {
      x.make(2, kind, 0);
      due("pushed(2) of KIND " + kind, x.pushed(2), 0);
      due("holds(2)", x.holds(2), 0);
    }
    familyAsked("pushed(..)", (y, place) -> place == 0 ? 0 : y.pushed(place));
  }

  private static void promise23() {
    SetHouse x = new SetHouse(1);
    due("first(2, 4, 0)", x.first(2, 4, 0), 4);
    sets(x, 0, 3, 5, 6, 9);
    due("holds(0)", x.holds(0), 4);
    due("count(0, 1)", x.count(0, 1), 2);
    due("first(2, 6, 0)", x.first(2, 6, 0), 6);
    due("first(2, 7, 0)", x.first(2, 7, 0), -1);
    sets(x, 0, 3, 5, 6, 9, 10, 12);
    due("first(2, 0, 0)", x.first(2, 0, 0), 0);
    sets(x, 0);
    due("first(0, 0, 0)", x.first(0, 0, 0), 0);
    sets(x, 0);
    due("holds(0)", x.holds(0), 4);
    due("first(0, 1, 0)", x.first(0, 1, 0), 1);
    sets(x, 0, 0);
    due("first(4, 1, 0)", x.first(4, 1, 0), 1);
    sets(x, 0, 15);
    due("first(0, 2, 0)", x.first(0, 2, 0), -1);
    due("first(5, 0, 0)", x.first(5, 0, 0), -1);
    due("first(-1, 0, 0)", x.first(-1, 0, 0), -1);
    due("first(2, -1, 0)", x.first(2, -1, 0), -1);
    due("first(2, 1, 16)", x.first(2, 1, 16), -1);
    due("first(2, 1, -1)", x.first(2, 1, -1), -1);
    due("first(MAX, 1, 0)", x.first(MAX, 1, 0), -1);
    sets(x, 0, 15);
    due("first(6, 1, 1) of six", new SetHouse(3).first(6, 1, 1), 1);
  }

  private static void promise24() {
    SetHouse x = house(4, 0, 3, 8, 15);
    due("sum(0)", x.sum(0), 24 + 4 + 6 + 24);
    x = house(6);
    due("sum(0) of none", x.sum(0), 0);
    x.rest(0, false, 0);
    due("sum(0) of all", x.sum(0), 7 * 720);
    x.make(4, 0, 0);
    fill(x, 4, 1, 3);
    due("sum(4)", x.sum(4), 120 + 48);
    familyAsked("sum(..)", (y, place) -> place == 0 ? 0 : y.sum(place));
  }

  private static void promise25() {
    SetHouse x = new SetHouse(1);
    int[] pairs = {3, 5, 6, 9, 10, 12};
    for (int i = 0; i < 6; i++) due("rank(" + pairs[i] + ")", x.rank(pairs[i]), i);
    due("rank(0)", x.rank(0), 0);
    due("rank(8)", x.rank(8), 3);
    due("rank(15)", x.rank(15), 0);
    for (int s : new int[] {-1, 16, MIN, MAX}) due("rank(" + s + ")", x.rank(s), -1);
    due("rank(56) of six", new SetHouse(3).rank(56), 19);
    due("rank(63) of six", new SetHouse(3).rank(63), 0);
  }

  private static void promise26() {
    SetHouse x = new SetHouse(1);
    int[] pairs = {3, 5, 6, 9, 10, 12};
    for (int i = 0; i < 6; i++) due("ranked(2, " + i + ")", x.ranked(2, i), pairs[i]);
    due("ranked(2, 6)", x.ranked(2, 6), -2);
    due("ranked(2, MAX)", x.ranked(2, MAX), -2);
    due("ranked(0, 0)", x.ranked(0, 0), 0);
    due("ranked(0, 1)", x.ranked(0, 1), -2);
    due("ranked(4, 0)", x.ranked(4, 0), 15);
    due("ranked(2, -1)", x.ranked(2, -1), -1);
    due("ranked(5, 0)", x.ranked(5, 0), -1);
    due("ranked(-1, 0)", x.ranked(-1, 0), -1);
    due("ranked(6, 0) of six", new SetHouse(3).ranked(6, 0), 63);
    due("ranked(3, 19) of six", new SetHouse(3).ranked(3, 19), 56);
  }

  private static void cascaded(int m, int k, int... want) {
    SetHouse x = new SetHouse(0);
    for (int i = 0; i < want.length; i++) due("cascade(" + m + ", " + k + ", " + i + ")", x.cascade(m, k, i), want[i]);
    due("cascade(" + m + ", " + k + ", " + want.length + ")", x.cascade(m, k, want.length), -2);
  }

  private static void promise27() {
    cascaded(10, 3, 5);
    cascaded(11, 3, 5, 2);
    cascaded(19, 3, 5, 4, 3);
    cascaded(1, 6, 6);
    cascaded(2, 6, 6, 5);
    cascaded(6, 6, 6, 5, 4, 3, 2, 1);
    cascaded(7, 6, 7);
    cascaded(1000, 1, 1000);
    cascaded(999, 1, 999);
    cascaded(1, 1, 1);
    cascaded(1000, 2, 45, 10);
    cascaded(1000, 6, 12, 8, 6, 4, 2);
    SetHouse x = new SetHouse(0);
    int[][] bad = {{0, 1, 0}, {1001, 1, 0}, {5, 0, 0}, {5, 7, 0}, {5, 2, -1}, {-1, 2, 0}, {MAX, 2, 0}, {5, MIN, 0}, {5, 2, MIN}};
    for (int[] b : bad) due("cascade(" + b[0] + ", " + b[1] + ", " + b[2] + ")", x.cascade(b[0], b[1], b[2]), -1);
    due("cascade(5, 2, MAX)", x.cascade(5, 2, MAX), -2);
  }

  private static void promise28() {
    SetHouse x = new SetHouse(0);
    due("least(10, 3)", x.least(10, 3), 10);
    due("least(11, 3)", x.least(11, 3), 10 + 2);
    due("least(19, 3)", x.least(19, 3), 10 + 4 + 1);
    due("least(1, 6)", x.least(1, 6), 6);
    due("least(1000, 1)", x.least(1000, 1), 1);
    due("least(1000, 2)", x.least(1000, 2), 45 + 1);
    due("least(1000, 6)", x.least(1000, 6), 792 + 70 + 20 + 6 + 2);
    due("least(2, 1)", x.least(2, 1), 1);
    int[][] bad = {{0, 1}, {1001, 1}, {5, 0}, {5, 7}, {-1, 2}, {MAX, 2}, {5, MIN}};
    for (int[] b : bad) due("least(" + b[0] + ", " + b[1] + ")", x.least(b[0], b[1]), -1);
  }

  private static void promise29() {
    // of three things: 0 1 3 7; 2 6; 4 5
    int[] number = {0, 0, 1, 0, 2, 2, 1, 0};
    int[] start = {0, 0, 2, 0, 4, 4, 2, 0};
    int[] length = {4, 4, 2, 4, 2, 2, 2, 4};
    SetHouse x = new SetHouse(0);
    for (int s = 0; s < 8; s++) {
      due("chain(" + s + ", 0)", x.chain(s, 0), number[s]);
      due("chain(" + s + ", 1)", x.chain(s, 1), start[s]);
      due("chain(" + s + ", 2)", x.chain(s, 2), length[s]);
    }
    int[][] bad = {{-1, 0}, {8, 0}, {0, -1}, {0, 3}, {MAX, 1}, {0, MIN}};
    for (int[] b : bad) due("chain(" + b[0] + ", " + b[1] + ")", x.chain(b[0], b[1]), -1);
    SetHouse six = new SetHouse(3);
    // ( ( ) ) ( ): all are matched
    due("chain(44, 1)", six.chain(44, 1), 44);
    due("chain(44, 2)", six.chain(44, 2), 1);
    due("chain(56, 1): ( ( ( ) ) )", six.chain(56, 1), 56);
    due("chain(56, 0): the last of C(6, 3)", six.chain(56, 0), 19);
  }

  private static void promise30() {
    SetHouse x = house(4, 3, 6, 12, 9, 5, 1, 7);
    due("ring(0, as it is, 2)", x.ring(0, AS_IT_IS4, 2), 4);
    due("ring(0, as it is, 1)", x.ring(0, AS_IT_IS4, 1), 1);
    due("ring(0, as it is, 3)", x.ring(0, AS_IT_IS4, 3), 1);
    // 0 2 1 3: 5, 6, 10, 9
    due("ring(0, 0 2 1 3, 2)", x.ring(0, 03120, 2), 3);
    x.make(1, 0, 0);
    due("ring(1, as it is, 2)", x.ring(1, AS_IT_IS4, 2), 0);
    familyAsked("ring(.., ring, 1)", (y, place) -> place == 0 ? 0 : y.ring(place, AS_IT_IS4, 1));
    outOfRange("ring(.., ring, 0)", (y, place) -> y.ring(place, AS_IT_IS4, 0));
    outOfRange("ring(.., ring, 4)", (y, place) -> y.ring(place, AS_IT_IS4, 4));
    outOfRange("ring(.., ring, MAX)", (y, place) -> y.ring(place, AS_IT_IS4, MAX));
    int[] none = {0, 03211, 04210, 013210, -1, AS_IT_IS3, AS_IT_IS5, MIN, MAX};
    for (int ring : none) outOfRange("ring(.., " + ring + ", 2)", (y, place) -> y.ring(place, ring, 2));
    due("ring(0, as it is, 5) of six", house(6, 31, 62).ring(0, AS_IT_IS6, 5), 2);
  }

  private static void promise31() {
    SetHouse x = house(3, 0, 1, 6, 7);
    due("weight(0, 2, 5)", x.weight(0, 2, 5), 27 + 2 * 9 + 4 * 3 + 8);
    due("weight(0, 0, 4)", x.weight(0, 0, 4), 64);
    due("weight(0, 4, 4)", x.weight(0, 4, 4), 64);
    due("weight(0, 1, 1)", x.weight(0, 1, 1), 1);
    due("weight(0, 0, 1)", x.weight(0, 0, 1), 1);
    SetHouse all = house(6);
    due("weight(0, 3, 9) of none", all.weight(0, 3, 9), 0);
    all.rest(0, false, 0);
    due("weight(0, 3, 9) of all", all.weight(0, 3, 9), 531441);
    all.make(4, 0, 0);
    fill(all, 4, 3);
    due("weight(4, 2, 3)", all.weight(4, 2, 3), 4);
    familyAsked("weight(.., 1, 2)", (y, place) -> place == 0 ? 0 : y.weight(place, 1, 2));
    int[][] bad = {{-1, 2}, {3, 2}, {0, 0}, {0, 10}, {0, -1}, {MIN, 3}, {MAX, MAX}};
    for (int[] b : bad) outOfRange("weight(.., " + b[0] + ", " + b[1] + ")", (y, place) -> y.weight(place, b[0], b[1]));
  }

  private static void promise32() {
    SetHouse x = house(3, 0, 1, 2, 7);
    due("matters(0, 0)", x.matters(0, 0), 2);
    due("matters(0, 1)", x.matters(0, 1), 2);
    due("matters(0, 2)", x.matters(0, 2), 4);
    x.rest(0, false, 1);
    due("matters(1, 2) of the rest", x.matters(1, 2), 4);
    x.make(4, 0, 0);
    fill(x, 4, 6);
    due("matters(4, 0)", x.matters(4, 0), 1);
    due("matters(4, 1)", x.matters(4, 1), 1);
    SetHouse six = house(6, 63);
    for (int i = 0; i < 6; i++) due("matters(0, " + i + ")", six.matters(0, i), 1);
    familyAsked("matters(.., 3)", (y, place) -> place == 0 ? 0 : y.matters(place, 3));
    outOfRange("matters(.., 4)", (y, place) -> y.matters(place, 4));
    outOfRange("matters(.., -1)", (y, place) -> y.matters(place, -1));
  }

  private static void promise33() {
    SetHouse x = house(4, 1, 2, 3, 4, 5);
    x.make(1, 0, 0);
    fill(x, 1, 4, 5, 6);
    due("product(0, 1)", x.product(0, 1), 2 * 16 - 15);
    due("product(0, 0)", x.product(0, 0), 5 * 16 - 25);
    x.make(1, 0, 0);
    fill(x, 1, 8);
    due("product(1, 0)", x.product(1, 0), -5);
    twoAsked("product(.., ..)", (y, a, b) -> a == 0 && b == 0 ? 0 : y.product(a, b));
  }

  private static void petals(SetHouse x, int... want) {
    for (int i = 0; i < want.length; i++) due("petal(" + i + ")", x.petal(i), want[i]);
    due("petal(" + want.length + ")", x.petal(want.length), -2);
  }

  private static void promise34() {
    SetHouse x = house(6, 3, 5, 6, 24);
    due("flower(0, 2)", x.flower(0, 2), 1);
    petals(x, 3, 5);
    due("flower(0, 3)", x.flower(0, 3), -2);
    fill(x, 0, 9);
    due("flower(0, 3)", x.flower(0, 3), 1);
    petals(x, 3, 5, 9);
    x = house(6, 1, 3, 5, 9, 17);
    due("flower(0, 5) whose first petal is its core", x.flower(0, 5), 1);
    petals(x, 1, 3, 5, 9, 17);
    x = house(6, 0, 1, 2, 4, 8, 16, 32);
    due("flower(0, 5)", x.flower(0, 5), 0);
    petals(x, 0, 1, 2, 4, 8);
    // 3 and 5 stand first, but with 3 and 12 there are more
    x = house(6, 3, 5, 12, 48);
    due("flower(0, 3)", x.flower(0, 3), 0);
    petals(x, 3, 12, 48);
    due("flower(0, 4)", x.flower(0, 4), -2);
    x = house(6, 7);
    due("flower(0, 2) of one", x.flower(0, 2), -2);
    // what looks like a further petal has more than the core in common with one
    due("flower(0, 3) of 3, 5, 7", house(6, 3, 5, 7).flower(0, 3), -2);
    due("flower(0, 4) of 3, 5, 9, 11", house(6, 3, 5, 9, 11).flower(0, 4), -2);
    due("flower(0, 3) of 1, 2, 3", house(6, 1, 2, 3).flower(0, 3), -2);
    x = house(6, 2, 3, 5, 9);
    due("flower(0, 3) whose first is a neighbour", x.flower(0, 3), 1);
    petals(x, 3, 5, 9);
    x = house(6, 3, 4, 5, 9);
    due("flower(0, 3) whose second is a neighbour", x.flower(0, 3), 1);
    petals(x, 3, 5, 9);
    x = house(6, 35, 37, 41, 49, 33);
    due("flower(0, 5) with 63's things", x.flower(0, 5), 33);
    petals(x, 33, 35, 37, 41, 49);
    familyAsked("flower(.., 2)", (y, place) -> place == 0 ? 0 : y.flower(place, 2));
    outOfRange("flower(.., 1)", (y, place) -> y.flower(place, 1));
    outOfRange("flower(.., 6)", (y, place) -> y.flower(place, 6));
    outOfRange("flower(.., MIN)", (y, place) -> y.flower(place, MIN));
  }

  private static void promise35() {
    SetHouse x = house(4, 1, 2, 4, 8);
    due("petal(0)", x.petal(0), -2);
    x.flower(0, 4);
    petals(x, 1, 2, 4, 8);
    due("petal(-1)", x.petal(-1), -2);
    due("petal(MIN)", x.petal(MIN), -2);
    due("petal(MAX)", x.petal(MAX), -2);
    due("petal(5)", x.petal(5), -2);
    due("flower(0, 5)", x.flower(0, 5), -2);
    due("flower(0, 6)", x.flower(0, 6), -1);
    due("flower(3, 2)", x.flower(3, 2), -11);
    petals(x, 1, 2, 4, 8);
    x.make(1, 0, 0);
    fill(x, 1, 3, 5);
    due("flower(1, 3)", x.flower(1, 3), -2);
    petals(x, 1, 2, 4, 8);
    due("flower(1, 2)", x.flower(1, 2), 1);
    petals(x, 3, 5);
    x.empty(1);
    petals(x, 3, 5);
  }

  private static void promise36() {
    SetHouse x = house(4, 3, 5, 9);
    due("cover(0)", x.cover(0), 1);
    fill(x, 0, 14);
    due("cover(0)", x.cover(0), 3);
    fill(x, 0, 12);
    due("cover(0)", x.cover(0), 5);
    fill(x, 0, 0);
    due("cover(0)", x.cover(0), -2);
    due("cover(0) of none", house(3).cover(0), 0);
    for (int i = 0; i < 4; i++) {
      x.make(4, 0, 0);
      fill(x, 4, 1 << i);
      due("cover(4)", x.cover(4), 1 << i);
    }
    due("cover(0) of every thing", house(6, 1, 2, 4, 8, 16, 32).cover(0), 63);
    due("cover(0): few things ahead of a small number", house(4, 9, 10, 12).cover(0), 8);
    familyAsked("cover(..)", (y, place) -> place == 0 ? 0 : y.cover(place));
  }

  private static void promise37() {
    due("loose(0)", house(6, 3, 12, 48, 1, 6).loose(0), 3);
    due("loose(0) of none", house(6).loose(0), 0);
    due("loose(0) of the empty one", house(6, 0).loose(0), 1);
    due("loose(0) with the empty one", house(6, 0, 63).loose(0), 2);
    due("loose(0) that all meet", house(4, 7, 11, 13, 14).loose(0), 1);
    // the greatest ones first would be worse: 6 against 3 and 12
    due("loose(0)", house(4, 6, 3, 12).loose(0), 2);
    SetHouse x = house(6);
    x.rest(0, false, 0);
    due("loose(0) of all", x.loose(0), 7);
    x.make(4, 0, 0);
    fill(x, 4, 1, 2);
    due("loose(4)", x.loose(4), 2);
    familyAsked("loose(..)", (y, place) -> place == 0 ? 0 : y.loose(place));
  }

  private static void promise38() {
    SetHouse x = house(3, 0, 1, 2, 3, 4);
    due("shattered(0, -1)", x.shattered(0, -1), 5);
    int[] want = {1, 1, 1, 1, 1, 0, 0, 0};
    for (int s = 0; s < 8; s++) due("shattered(0, " + s + ")", x.shattered(0, s), want[s]);
    x = house(3);
    due("shattered(0, -1) of none", x.shattered(0, -1), 0);
    due("shattered(0, 0) of none", x.shattered(0, 0), 0);
    x = house(3, 5);
    due("shattered(0, -1) of one", x.shattered(0, -1), 1);
    due("shattered(0, 0) of one", x.shattered(0, 0), 1);
    x = house(6);
    x.rest(0, false, 0);
    due("shattered(0, -1) of all", x.shattered(0, -1), 64);
    due("shattered(0, 63) of all", x.shattered(0, 63), 1);
    x.make(4, 0, 0);
    fill(x, 4, 1, 2);
    due("shattered(4, -1)", x.shattered(4, -1), 3);
    due("shattered(4, 3)", x.shattered(4, 3), 0);
    due("shattered(4, 2)", x.shattered(4, 2), 1);
    familyAsked("shattered(.., -1)", (y, place) -> place == 0 ? 0 : y.shattered(place, -1));
    familyAsked("shattered(.., 3)", (y, place) -> place == 0 ? 0 : y.shattered(place, 3));
    outOfRange("shattered(.., 16)", (y, place) -> y.shattered(place, 16));
    outOfRange("shattered(.., -2)", (y, place) -> y.shattered(place, -2));
  }

  private static void promise39() {
    SetHouse x = new SetHouse(3);
    due("greatest(1, 1, 0)", x.greatest(1, 1, 0), 1);
    sets(x, 0, 1);
    due("greatest(2, 1, 0)", x.greatest(2, 1, 0), 5);
    sets(x, 0, 3, 5, 9, 17, 33);
    due("greatest(3, 1, 0)", x.greatest(3, 1, 0), 10);
    sets(x, 0, 7, 11, 13, 14, 19, 21, 22, 25, 26, 28);
    due("greatest(3, 2, 0)", x.greatest(3, 2, 0), 4);
    sets(x, 0, 7, 11, 13, 14);
    due("greatest(4, 2, 0)", x.greatest(4, 2, 0), 15);
    due("greatest(4, 3, 0)", x.greatest(4, 3, 0), 5);
    sets(x, 0, 15, 23, 27, 29, 30);
    due("holds(0)", x.holds(0), 4);
    due("count(0, 1)", x.count(0, 1), 4);
    due("greatest(6, 6, 0)", x.greatest(6, 6, 0), 1);
    sets(x, 0, 63);
    due("greatest(2, 1, 0) again", x.greatest(2, 1, 0), 5);
    x.drop(0, 3);
    due("greatest(2, 1, 1) once more", x.greatest(2, 1, 1), 5);
    sets(x, 1, 3, 5, 9, 17, 33);
    SetHouse four = new SetHouse(1);
    due("greatest(2, 1, 0) of four", four.greatest(2, 1, 0), 3);
    sets(four, 0, 3, 5, 6);
    int[][] bad = {{0, 1, 0}, {5, 1, 0}, {2, 0, 0}, {2, 3, 0}, {2, 1, 16}, {2, 1, -1}, {0, 0, 0}, {MAX, 1, 0}, {2, MIN, 0}};
    for (int[] b : bad) due("greatest(" + b[0] + ", " + b[1] + ", " + b[2] + ")", four.greatest(b[0], b[1], b[2]), -1);
    sets(four, 0, 3, 5, 6);
  }

  private static void promise40() {
    SetHouse x = house(4, 1, 3);
    x.make(1, 0, 0);
    fill(x, 1, 8, 10);
    // 0 becomes 3, 1 becomes 1; then 2 becomes 0, 3 becomes 2
    due("same(0, 1)", x.same(0, 1), 3 + 8 * 1 + 64 * 0 + 512 * 2);
    due("same(1, 0)", x.same(1, 0), 2 + 8 * 1 + 64 * 3 + 512 * 0);
    due("same(0, 0)", x.same(0, 0), AS_IT_IS4);
    fill(x, 1, 0);
    due("same(0, 1) of unlike size", x.same(0, 1), -2);
    fill(x, 0, 15);
    due("same(0, 1)", x.same(0, 1), -2);
    x.make(2, 0, 0);
    x.make(3, 3, 0);
    due("same(2, 3) of none", x.same(2, 3), AS_IT_IS4);
    SetHouse six = house(6, 32);
    six.make(1, 4, 1);
    fill(six, 1, 1);
    // 5 becomes 0; the others 1, 2, .. in their order
    due("same(0, 1) of six", six.same(0, 1), 0054321);
    SetHouse path = house(4, 3, 6, 12);
    path.make(1, 0, 0);
    fill(path, 1, 3, 5, 9);
    due("same(path, star)", path.same(0, 1), -2);
    twoAsked("same(.., ..)", (y, a, b) -> a == 0 && b == 0 ? 0 : y.same(a, b));
  }

  private static void promise41() {
    due("turns(0) of none", house(6).turns(0), 720);
    due("turns(0) of {0}", house(5, 1).turns(0), 24);
    due("turns(0) of a path", house(4, 3, 6, 12).turns(0), 2);
    due("turns(0) of a ring", house(4, 3, 6, 12, 9).turns(0), 8);
    due("turns(0) of a ring of three of six", house(6, 3, 6, 5).turns(0), 36);
    due("turns(0) of a staircase", house(3, 1, 3).turns(0), 1);
    due("turns(0) of the whole and the empty", house(3, 0, 7).turns(0), 6);
    SetHouse x = house(6, 1, 3, 7, 15, 31);
    due("turns(0) of a staircase of six", x.turns(0), 1);
    x.make(4, 0, 0);
    fill(x, 4, 3);
    due("turns(4)", x.turns(4), 48);
    familyAsked("turns(..)", (y, place) -> place == 0 ? 0 : y.turns(place));
  }

  /** 1: IllegalArgumentException, 2: IllegalStateException, 3: another, 0: none. */
  private static int thrown(SetHouse x, int place, int i) {
    try {
      x.element(place, i);
    } catch (IllegalArgumentException e) {
      return e.getClass() == IllegalArgumentException.class ? 1 : 3;
    } catch (IllegalStateException e) {
      return e.getClass() == IllegalStateException.class ? 2 : 3;
    } catch (RuntimeException e) {
      return 3;
    }
    return 0;
  }

  private static void promise42() {
    SetHouse x = new SetHouse(0);
    for (int sort = 6; sort <= 8; sort++) {
      due("row(0, " + sort + ", 64)", x.row(0, sort, 64), 0);
      due("holds(0)", x.holds(0), sort);
      for (int i = 0; i < 64; i++) due("element(0, " + i + ")", x.element(0, i), 0);
      for (int i = 0; i < 64; i++) x.put(0, i, 9);
    }
    due("row(0, 8, 3) anew", x.row(0, 8, 3), 0);
    for (int i = 0; i < 3; i++) due("element(0, " + i + ")", x.element(0, i), 0);
    due("element(0, 3) throws", thrown(x, 0, 3), 2);
    due("row(1, 6, 0)", x.row(1, 6, 0), 0);
    due("element(1, 0) throws", thrown(x, 1, 0), 2);
    due("row(0, 7, 64) over a short one", x.row(0, 7, 64), 0);
    due("element(0, 63)", x.element(0, 63), 0);
    due("row(2, 6, 65)", x.row(2, 6, 65), -1);
    due("row(2, 6, MAX)", x.row(2, 6, MAX), -1);
    due("row(2, 6, -1)", x.row(2, 6, -1), -14);
    due("row(2, 6, MIN)", x.row(2, 6, MIN), -14);
    due("row(2, 5, -1)", x.row(2, 5, -1), -1);
    due("row(2, 9, -1)", x.row(2, 9, -1), -1);
    due("row(16, 6, -1)", x.row(16, 6, -1), -1);
    due("row(-1, 6, 1)", x.row(-1, 6, 1), -1);
    due("row(2, 0, 1)", x.row(2, 0, 1), -1);
    due("holds(2)", x.holds(2), -2);
    x.make(3, 2, 1);
    due("row(3, 7, 1) where a family was", x.row(3, 7, 1), 0);
    due("holds(3)", x.holds(3), 7);
    due("count(3, 0)", x.count(3, 0), -12);
  }

  private static void promise43() {
    SetHouse x = threePlaces();
    long[] v = {0, 127, 128, 255, 256, -129, 1L << 40, Long.MIN_VALUE, Long.MAX_VALUE, 0x1_8000_0000L};
    long[] bytes = {0, 127, -128, -1, 0, 127, 0, 0, -1, 0};
    long[] ints = {0, 127, 128, 255, 256, -129, 0, 0, -1, MIN};
    x.row(3, 7, 10);
    x.row(4, 8, 10);
    for (int i = 0; i < v.length; i++) {
      due("put(1, " + i + ", " + v[i] + ")", x.put(1, i, v[i]), 0);
      due("element(1, " + i + ")", x.element(1, i), bytes[i]);
      due("put(3, " + i + ", " + v[i] + ")", x.put(3, i, v[i]), 0);
      due("element(3, " + i + ")", x.element(3, i), ints[i]);
      due("put(4, " + i + ", " + v[i] + ")", x.put(4, i, v[i]), 0);
      due("element(4, " + i + ")", x.element(4, i), v[i]);
    }
    due("put(1, 63, 1)", x.put(1, 63, 1), 0);
    for (int i : new int[] {-1, 64, MIN, MAX}) {
      due("put(1, " + i + ", 1)", x.put(1, i, 1), -13);
      due("put(16, " + i + ", 1)", x.put(16, i, 1), -1);
      due("put(-1, " + i + ", 1)", x.put(-1, i, 1), -1);
      due("put(2, " + i + ", 1)", x.put(2, i, 1), -11);
      due("put(0, " + i + ", 1)", x.put(0, i, 1), -12);
    }
    due("put(3, 10, 1)", x.put(3, 10, 1), -13);
    sets(x, 0, 3, 5);
  }

  private static void promise44() {
    SetHouse x = threePlaces();
    x.put(1, 63, -5);
    due("element(1, 63)", x.element(1, 63), -5);
    for (int i : new int[] {-1, 64, MIN, MAX}) due("element(1, " + i + ") throws", thrown(x, 1, i), 2);
    for (int place : new int[] {-1, 16, MIN, MAX}) {
      due("element(" + place + ", 0) throws", thrown(x, place, 0), 1);
      due("element(" + place + ", -1) throws", thrown(x, place, -1), 1);
    }
    due("element(2, 0) of nothing throws", thrown(x, 2, 0), 2);
    due("element(0, 0) of a family throws", thrown(x, 0, 0), 2);
    due("element(1, 0) throws", thrown(x, 1, 0), 0);
  }

  private static void row(SetHouse x, int place, long... want) {
    for (int i = 0; i < want.length; i++) due("element(" + place + ", " + i + ")", x.element(place, i), want[i]);
    due("element(" + place + ", " + want.length + ") throws", thrown(x, place, want.length), 2);
  }

  private static void putAll(SetHouse x, int place, int sort, long... v) {
    x.row(place, sort, v.length);
    for (int i = 0; i < v.length; i++) due("put(" + place + ", " + i + ")", x.put(place, i, v[i]), 0);
  }

  private static void promise45() {
    SetHouse x = new SetHouse(0);
    putAll(x, 3, 8, 1, 2, 3, 4, 1L << 40);
    x.row(4, 8, 3);
    due("copy(3, 2, 4, 0, 3)", x.copy(3, 2, 4, 0, 3), 3);
    row(x, 4, 3, 4, 1L << 40);
    due("copy(3, 0, 4, 1, 1)", x.copy(3, 0, 4, 1, 1), 1);
    row(x, 4, 3, 1, 1L << 40);
    due("copy(3, 0, 3, 1, 4) within itself", x.copy(3, 0, 3, 1, 4), 4);
    row(x, 3, 1, 1, 2, 3, 4);
    due("copy(3, 1, 3, 0, 4) within itself", x.copy(3, 1, 3, 0, 4), 4);
    row(x, 3, 1, 2, 3, 4, 4);
    due("copy(3, 5, 4, 3, 0) at the ends", x.copy(3, 5, 4, 3, 0), 0);
    int[][] beyond = {{6, 0, 0}, {0, 4, 0}, {0, 0, 4}, {3, 0, 3}, {0, 1, 3}, {0, 0, -1}, {-1, 0, 1}, {0, -1, 1},
      {MAX, 0, 1}, {0, MAX, 1}, {0, 0, MAX}, {MAX, MAX, MAX}, {MIN, 0, 0}, {1, 1, MAX}, {0, 0, MIN}, {5, 0, 1}};
    for (int[] b : beyond) {
      due("copy(3, " + b[0] + ", 4, " + b[1] + ", " + b[2] + ")", x.copy(3, b[0], 4, b[1], b[2]), -13);
    }
    row(x, 4, 3, 1, 1L << 40);
    row(x, 3, 1, 2, 3, 4, 4);
    copyRefused();
  }

  private static void copyRefused() {
    SetHouse x = threePlaces();
    x.row(3, 7, 4);
    x.row(4, 8, 4);
    x.row(5, 6, 4);
    due("copy of a row and no place", x.copy(1, 0, 16, 0, 1), -1);
    due("copy of no place and nothing", x.copy(-1, 0, 2, 0, 1), -1);
    due("copy of a family and nothing", x.copy(0, 0, 2, 0, 1), -11);
    due("copy of nothing and a family", x.copy(2, 0, 0, 0, 1), -11);
    due("copy of a row and nothing", x.copy(1, 0, 2, 0, -1), -11);
    due("copy of a row and a family", x.copy(1, 0, 0, 0, -1), -12);
    due("copy of a family and a row", x.copy(0, 0, 1, 0, -1), -12);
    due("copy of families", x.copy(0, 0, 0, 0, 0), -12);
    due("copy of bytes to ints", x.copy(1, 0, 3, 0, -1), -12);
    due("copy of ints to longs", x.copy(3, 0, 4, 0, 1), -12);
    due("copy of longs to bytes", x.copy(4, 0, 5, 0, 0), -12);
    due("copy of bytes to bytes", x.copy(1, 0, 5, 0, 4), 4);
  }

  private static void promise46() {
    SetHouse x = house(3, 2);
    putAll(x, 1, 7, 7, 2, 7, 0);
    due("take(1, 0)", x.take(1, 0), 4);
    sets(x, 0, 0, 2, 7);
    putAll(x, 1, 8, 1, 8, 3);
    due("take(1, 0) up to no set", x.take(1, 0), 1);
    sets(x, 0, 0, 1, 2, 7);
    putAll(x, 1, 8, 3, 1L << 32, 4);
    due("take(1, 0) up to a long", x.take(1, 0), 1);
    putAll(x, 1, 6, -1, 4);
    due("take(1, 0) with no set ahead", x.take(1, 0), 0);
    due("clash()", x.clash(), -2);
    sets(x, 0, 0, 1, 2, 3, 7);
    x.make(2, 1, 0);
    putAll(x, 1, 6, 1, 6, 1, 3, 4);
    due("take(1, 2) of APART", x.take(1, 2), 3);
    due("clash()", x.clash(), 1);
    sets(x, 2, 1, 6);
    x.row(1, 6, 0);
    due("take(1, 2) of no numbers", x.take(1, 2), 0);
    x.make(2, 0, 0);
    putAll(x, 1, 6, 1, 2, 3, 4);
    x.row(1, 6, 1);
    x.put(1, 0, 5);
    due("take(1, 2) of what the row has now", x.take(1, 2), 1);
    sets(x, 2, 5);
    x.row(1, 8, 64);
    due("take(1, 2) of 64", x.take(1, 2), 64);
    sets(x, 2, 0, 5);
    takeRefused();
  }

  private static void takeRefused() {
    SetHouse x = threePlaces();
    due("take(1, 16)", x.take(1, 16), -1);
    due("take(-1, 2)", x.take(-1, 2), -1);
    due("take(2, 16)", x.take(2, 16), -1);
    due("take(2, 0)", x.take(2, 0), -11);
    due("take(2, 1)", x.take(2, 1), -11);
    due("take(0, 2): the row first", x.take(0, 2), -12);
    due("take(0, 0)", x.take(0, 0), -12);
    due("take(0, 1)", x.take(0, 1), -12);
    due("take(1, 2)", x.take(1, 2), -11);
    due("take(1, 1)", x.take(1, 1), -12);
    untouched(x);
  }

  private static void promise47() {
    SetHouse x = house(4, 3, 5);
    due("heft(0) of FREE", x.heft(0), 12);
    x.make(1, 1, 9);
    fill(x, 1, 3, 5);
    due("heft(1) of APART", x.heft(1), 112);
    x.make(2, 2, 1);
    fill(x, 2, 3, 5, 9);
    due("heft(2) of MEET", x.heft(2), 14);
    x.make(3, 3, 9);
    fill(x, 3, 0, 1);
    due("heft(3) of DOWN", x.heft(3), 1012);
    x.make(4, 4, 2);
    fill(x, 4, 3, 5);
    due("heft(4) of LAYER", x.heft(4), 224);
    x.cross(5, 2, 1);
    fill(x, 5, 1);
    due("heft(5) of CROSS", x.heft(5), 15);
    x.make(6, 0, 7);
    due("heft(6) of none", x.heft(6), 10);
    familyAsked("heft(..)", (y, place) -> place == 0 ? 0 : y.heft(place));
  }

  private static void promise48() {
    SetHouse x = house(4, 3);
    x.make(1, 1, 3);
    x.make(2, 2, 3);
    x.make(3, 3, 3);
    x.make(4, 4, 1);
    x.cross(5, 0, 2);
    x.make(6, 2, 0);
    int[] want = {-15, -15, 3, -15, 1, 2, 0};
    for (int place = 0; place < 7; place++) due("toss(" + place + ")", x.toss(place), want[place]);
    familyAsked("toss(..)", (y, place) -> place == 0 ? 0 : y.toss(place));
  }

  public static void main(String[] args) throws ReflectiveOperationException {
    for (int i = 1; i <= 48; i++) {
      promise = "promise " + i;
      int before = calls;
      Method test = PromisesTest.class.getDeclaredMethod("promise" + i);
      test.invoke(null);
      if (calls == before) due("the test's calls", 0, 1);
    }
    System.out.println(calls + " answers, " + wrong + " not as due");
    if (wrong != 0) System.exit(1);
  }
}
