/** Promises 1 to 12: a new object, and FAMILIES. */
final class FamilySentences extends Sentences {
  static void run() {
    newObject();
    make();
    cross();
    add();
    drop();
    clash();
    empty();
    holds();
    count();
    has();
    set();
    is();
  }

  private static void newObject() {
    section("Promise 1: A new object");
    says("n is 3 + (things modulo 4, 0 to 3; of -1: 3).");
    int[] things = {0, 1, 2, 3, 4, 5, 7, 8, -1, -2, -3, -4, -5, -8, MAX, MAX - 1, MAX - 3, MIN, MIN + 1, MIN + 3};
    int[] n = {3, 4, 5, 6, 3, 4, 6, 3, 6, 5, 4, 3, 6, 3, 6, 5, 3, 3, 4, 6};
    for (int i = 0; i < things.length; i++) {
      SetHouse x = new SetHouse(things[i]);
      String of = " of a SetHouse(" + things[i] + ")";
      due("rank(2^n - 1)" + of, x.rank((1 << n[i]) - 1), 0);
      due("rank(2^n)" + of, x.rank(1 << n[i]), -1);
      due("first(n, 1, 0)" + of, x.first(n[i], 1, 0), 1);
      due("first(n + 1, 0, 0)" + of, x.first(n[i] + 1, 0, 0), -1);
    }
  }

  private static void make() {
    section("Promise 2: make");
    says("A PLACE holds a FAMILY without SETS of KIND 0 .. 4,");
    for (int kind = 0; kind <= 4; kind++) {
      // whatever was there: FAMILIES of each KIND, ROWS, nothing
      for (int place = 0; place < 16; place++) {
        SetHouse x = Furnished.house(4);
        due("make(" + place + ", " + kind + ", 2)", x.make(place, kind, 2), 0);
        family(x, place, kind, kind == 2 || kind == 4 ? 2 : -2);
        due("count(" + place + ", 2)", x.count(place, 2), -2);
      }
    }
    for (int kind : new int[] {-1, 5, 6, MIN, MAX}) {
      Furnished.refused(4, "make(0, " + kind + ", 0)", (x, a) -> x.make(0, kind, 0), -1);
    }

    says("t told for 2 and 4 (0 .. n; of others any): 0.");
    for (int n = 3; n <= 6; n++) {
      for (int kind : new int[] {2, 4}) {
        SetHouse x = new SetHouse(n - 3);
        for (int t : new int[] {0, n}) {
          due("make(0, " + kind + ", " + t + ")", x.make(0, kind, t), 0);
          due("count(0, 1)", x.count(0, 1), t);
        }
        for (int t : new int[] {-1, n + 1, MIN, MAX}) due("make(0, " + kind + ", " + t + ")", x.make(0, kind, t), -1);
        due("count(0, 1)", x.count(0, 1), n);
      }
      for (int kind : new int[] {0, 1, 3}) {
        SetHouse x = new SetHouse(n - 3);
        for (int t : new int[] {-1, 0, n, n + 1, MIN, MAX}) {
          due("make(0, " + kind + ", " + t + ")", x.make(0, kind, t), 0);
          due("count(0, 1)", x.count(0, 1), -2);
        }
      }
    }

    says("-1.");
    for (int n = 3; n <= 6; n++) {
      Furnished.Values told = Furnished.these(new int[] {2, 4}, -1, 5, MIN, MAX);
      Furnished.Values others = Furnished.these(new int[] {0, 1, 3}, -1, 5, MIN, MAX);
      Furnished.Values any = Furnished.these(new int[] {MIN, -1, 0, n, n + 1, MAX});
      Furnished.inOrder(n, "make", (x, a) -> x.make(a[0], a[1], a[2]), Furnished.place(), told, Furnished.range(0, n));
      Furnished.inOrder(n, "make", (x, a) -> x.make(a[0], a[1], a[2]), Furnished.place(), others, any);
    }
  }

  private static void cross() {
    section("Promise 3: cross");
    says("A PLACE holds a CROSS without SETS whose PARTNER is the FAMILY at another one (or at that one): 0.");
    int[] many = {2, 2, 2, 4, 3, 1};
    for (int place = 0; place < 16; place++) {
      for (int partner = 0; partner <= 5; partner++) {
        SetHouse x = Furnished.house(4);
        due("cross(" + place + ", " + partner + ", 1)", x.cross(place, partner, 1), 0);
        family(x, place, 5, 1);
        due("count(" + place + ", 2)", x.count(place, 2), many[partner]);
      }
    }
    for (int n = 3; n <= 6; n++) {
      SetHouse x = full(n);
      due("cross(1, 0, 0) with all", x.cross(1, 0, 0), 0);
      due("count(1, 2)", x.count(1, 2), 1 << n);
      due("cross(1, 0, n)", x.cross(1, 0, n), 0);
      due("count(1, 1)", x.count(1, 1), n);
      due("cross(1, 0, -1)", x.cross(1, 0, -1), -1);
      due("cross(1, 0, n + 1)", x.cross(1, 0, n + 1), -1);
      due("count(1, 1)", x.count(1, 1), n);
      // the PARTNER of a CROSS is its SETS, not its PARTNER's
      due("cross(2, 1, 0)", x.cross(2, 1, 0), 0);
      due("count(2, 2)", x.count(2, 2), 0);
    }

    says("-1, -11, -12 (of the other one).");
    for (int n = 3; n <= 6; n++) {
      Furnished.inOrder(n, "cross", (x, a) -> x.cross(a[0], a[1], a[2]),
          Furnished.place(), Furnished.family(), Furnished.range(0, n));
    }
    for (int place : new int[] {10, 6}) {
      SetHouse x = Furnished.house(4);
      due("cross(" + place + ", 0, 1), where there is no FAMILY", x.cross(place, 0, 1), 0);
    }
  }

  private static void add() {
    section("Promise 4: add");
    says("A SET comes: how many there are (it may be there already).");
    for (int n = 3; n <= 6; n++) {
      SetHouse x = free(n);
      due("add(0, 2^n - 1) to none", x.add(0, (1 << n) - 1), 1);
      due("add(0, 0)", x.add(0, 0), 2);
      for (int s = 1; s < (1 << n) - 1; s++) due("add(0, " + s + ")", x.add(0, s), s + 2);
      due("add(0, 0) to all", x.add(0, 0), 1 << n);
    }
    for (int place : Furnished.FAMILIES) {
      SetHouse x = Furnished.house(4);
      int there = x.count(place, 0);
      for (int i = 0; i < there; i++) due("add of one that is there", x.add(place, x.set(place, i)), there);
      due("clash() stays", x.clash(), Furnished.CLASH);
    }

    says("-1, -11, -12, -3.");
    for (int n = 3; n <= 6; n++) {
      Furnished.inOrder(n, "add", (x, a) -> x.add(a[0], a[1]), Furnished.family(), Furnished.range(0, (1 << n) - 1));
      int[][] refused = {{1, 7, 3}, {1, 0, 3}, {2, 6, 1}, {2, 0, 0}, {3, 5, 4}, {4, 7, 7}, {4, 0, 0}, {5, 1, 6}, {5, 0, 0}};
      for (int[] r : refused) {
        Furnished.refused(n, "add(" + r[0] + ", " + r[1] + ")", (x, a) -> x.add(r[0], r[1]), -3, r[2]);
      }
    }
  }

  private static void drop() {
    section("Promise 5: drop");
    says("A SET goes: how many are left.");
    for (int n = 3; n <= 6; n++) {
      SetHouse x = full(n);
      due("drop(0, 2^n - 1)", x.drop(0, (1 << n) - 1), (1 << n) - 1);
      due("drop(0, 0)", x.drop(0, 0), (1 << n) - 2);
      x = free(n, 0);
      due("drop(0, 0), the last one", x.drop(0, 0), 0);
      sets(x, 0);
      due("drop(0, 0) of none", x.drop(0, 0), -2);
      x = of(n, 3, 0, 0);
      due("drop(0, 0) of DOWN, where it stands alone", x.drop(0, 0), 0);
    }

    says("-1, -11, -12, -2, -3.");
    for (int n = 3; n <= 6; n++) {
      Furnished.inOrder(n, "drop", (x, a) -> x.drop(a[0], a[1]), Furnished.family(), Furnished.range(0, (1 << n) - 1));
      for (int place : Furnished.FAMILIES) {
        Furnished.refused(n, "drop(" + place + ", 4 or 2)", (x, a) -> x.drop(place, place == 1 ? 2 : 4), -2);
      }
      Furnished.refused(n, "drop(3, 0)", (x, a) -> x.drop(3, 0), -3, 1);
      Furnished.refused(n, "drop(3, 1)", (x, a) -> x.drop(3, 1), -3, 3);
      Furnished.refused(n, "drop(3, 2)", (x, a) -> x.drop(3, 2), -3, 3);
    }
  }

  private static void clash() {
    section("Promise 6: clash");
    says("The CLASH of the latest call that was refused by -3;");
    SetHouse x = of(4, 4, 1);
    due("add(0, 3)", x.add(0, 3), -3);
    due("clash()", x.clash(), 3);
    due("clash() again", x.clash(), 3);
    due("add(0, 16)", x.add(0, 16), -1);
    due("add(1, 1)", x.add(1, 1), -11);
    due("drop(0, 2)", x.drop(0, 2), -2);
    due("toss(1)", x.toss(1), -11);
    due("row(1, 6, -1)", x.row(1, 6, -1), -14);
    due("add(0, 1), which is not refused", x.add(0, 1), 1);
    due("is(0, 4, 1)", x.is(0, 4, 1), 1);
    due("clash() stays", x.clash(), 3);
    due("add(0, 0)", x.add(0, 0), -3);
    due("clash() of the latest: the empty SET", x.clash(), 0);
    due("add(0, 15)", x.add(0, 15), -3);
    due("clash() of the latest: the whole SET", x.clash(), 15);
    due("empty(0)", x.empty(0), 1);
    due("clash() stays", x.clash(), 15);
    put(x, 0, 3, 0, 0, 1);
    due("drop(0, 0)", x.drop(0, 0), -3);
    due("clash() of drop()", x.clash(), 1);
    rowOf(x, 1, 7, 6);
    due("take(1, 0)", x.take(1, 0), 0);
    due("clash() of take()", x.clash(), 2);
    for (int i = 0; i < FamilyCalls.NAMES.length; i++) {
      // is() that answers 0 is the one call that tells a CLASH and is not refused
      if (FamilyCalls.NAMES[i].equals("is(.., 4, 0)")) continue;
      for (int place : new int[] {0, 15}) {
        x = Furnished.house(4);
        FamilyCalls.call(x, i, 4, place);
        due("clash() after " + FamilyCalls.NAMES[i] + " at " + place, x.clash(), Furnished.CLASH);
      }
    }
    x = Furnished.house(4);
    othersTaken(x);
    due("clash() after calls that ask for no FAMILY", x.clash(), Furnished.CLASH);

    says("-2: there was none.");
    for (int n = 3; n <= 6; n++) {
      x = new SetHouse(n - 3);
      due("clash() of a new object", x.clash(), -2);
      x.add(0, 0);
      x.add(-1, 0);
      put(x, 0, 0, 0, 1, 2, 3);
      x.drop(0, 7);
      x.is(0, 0, 0);
      due("clash() where none was refused by -3", x.clash(), -2);
    }
  }

  /** Calls of a Furnished house that ask for no FAMILY, and are not refused. */
  static void othersTaken(SetHouse x) {
    long[] answers = {
      x.make(11, 4, 2), x.first(2, 3, 12), x.greatest(2, 1, 13), x.row(14, 6, 3), x.put(14, 0, 5), x.copy(14, 0, 6, 0, 2),
      element(x, 14, 0), x.holds(14), x.rank(5), x.ranked(2, 1), x.cascade(10, 3, 0), x.least(10, 3), x.chain(5, 0),
      x.petal(0), x.empty(14), x.empty(4),
    };
    for (long answer : answers) due("a call that asks for no FAMILY is taken", Math.min(0, answer), 0);
  }

  private static void empty() {
    section("Promise 7: empty");
    says("A PLACE holds nothing: whether it held something.");
    for (int place = 0; place < 16; place++) {
      SetHouse x = Furnished.house(4);
      boolean held = x.holds(place) != -2;
      due("empty(" + place + ")", x.empty(place), held ? 1 : 0);
      due("holds(" + place + ")", x.holds(place), -2);
      due("empty(" + place + ") again", x.empty(place), 0);
      due("add(" + place + ", 1)", x.add(place, 1), -11);
      due("put(" + place + ", 0, 1)", x.put(place, 0, 1), -11);
      for (int other = 0; other < 16; other++) {
        if (other != place) due("holds(" + other + ")", x.holds(other), Furnished.house(4).holds(other));
      }
    }
    SetHouse x = free(3);
    due("empty(0), a FAMILY without SETS", x.empty(0), 1);
    x.row(0, 6, 0);
    due("empty(0), a ROW without numbers", x.empty(0), 1);

    says("-1.");
    Furnished.inOrder(4, "empty", (x2, a) -> x2.empty(a[0]), Furnished.place());
  }

  private static void holds() {
    section("Promise 8: holds");
    says("Of a PLACE: -2 nothing, 0 .. 5 the KIND of a FAMILY, 6 a ROW of bytes, 7 of ints, 8 of longs.");
    int[] want = {0, 1, 2, 3, 4, 5, 6, 7, 8, 6, -2, -2, -2, -2, -2, 0};
    for (int n = 3; n <= 6; n++) {
      SetHouse x = Furnished.house(n);
      for (int place = 0; place < 16; place++) due("holds(" + place + ")", x.holds(place), want[place]);
    }

    says("-1.");
    Furnished.inOrder(4, "holds", (x, a) -> x.holds(a[0]), Furnished.place());
  }

  private static void count() {
    section("Promise 9: count");
    says("0 how many SETS,");
    for (int n = 3; n <= 6; n++) {
      due("count(0, 0) of none", free(n).count(0, 0), 0);
      due("count(0, 0) of the empty SET", free(n, 0).count(0, 0), 1);
      due("count(0, 0) of all", full(n).count(0, 0), 1 << n);
    }

    says("1 t (-2: KINDS 0, 1, 3 have none),");
    for (int n = 3; n <= 6; n++) {
      for (int t = 0; t <= n; t++) {
        SetHouse x = new SetHouse(n - 3);
        for (int kind = 0; kind <= 4; kind++) x.make(kind, kind, t);
        x.cross(5, 0, t);
        for (int kind = 0; kind <= 5; kind++) {
          due("count(" + kind + ", 1)", x.count(kind, 1), kind == 2 || kind >= 4 ? t : -2);
        }
      }
    }

    says("2 SETS of the PARTNER (-2: none; 0: it has no SETS),");
    for (int n = 3; n <= 6; n++) {
      SetHouse x = full(n);
      x.make(1, 0, 0);
      x.cross(2, 1, 0);
      x.cross(3, 0, 0);
      due("count(2, 2)", x.count(2, 2), 0);
      due("count(3, 2)", x.count(3, 2), 1 << n);
      for (int kind = 0; kind <= 4; kind++) {
        x.make(3, kind, 0);
        due("count(3, 2) of KIND " + kind + ", where a CROSS was", x.count(3, 2), -2);
      }
    }

    says("3 .. 9 how many of SIZE what - 3.");
    for (int n = 3; n <= 6; n++) {
      SetHouse x = full(n);
      for (int what = 3; what <= 9; what++) due("count(0, " + what + ") of all", x.count(0, what), choose(n, what - 3));
      x = free(n, 0, (1 << n) - 1);
      for (int what = 3; what <= 9; what++) {
        due("count(0, " + what + ") of two", x.count(0, what), what == 3 || what == 3 + n ? 1 : 0);
      }
      x = free(n);
      for (int what = 3; what <= 9; what++) due("count(0, " + what + ") of none", x.count(0, what), 0);
    }

    says("-1, -11, -12.");
    for (int n = 3; n <= 6; n++) {
      Furnished.inOrder(n, "count", (x, a) -> x.count(a[0], a[1]), Furnished.family(), Furnished.range(0, 9));
    }
  }

  private static void has() {
    section("Promise 10: has");
    says("Whether a SET is in a FAMILY.");
    for (int n = 3; n <= 6; n++) {
      int last = (1 << n) - 1;
      SetHouse x = free(n, 0, last);
      for (int s = 0; s <= last; s++) due("has(0, " + s + ")", x.has(0, s), s == 0 || s == last ? 1 : 0);
      due("has(0, 0) of none", free(n).has(0, 0), 0);
      due("has(0, 2^n - 1) of all", full(n).has(0, last), 1);
    }

    says("-1, -11, -12.");
    for (int n = 3; n <= 6; n++) {
      Furnished.inOrder(n, "has", (x, a) -> x.has(a[0], a[1]), Furnished.family(), Furnished.range(0, (1 << n) - 1));
    }
  }

  private static void set() {
    section("Promise 11: set");
    says("SET i, from 0.");
    for (int n = 3; n <= 6; n++) {
      SetHouse x = free(n, (1 << n) - 1, 4, 0);
      due("set(0, 0)", x.set(0, 0), 0);
      due("set(0, 1)", x.set(0, 1), 4);
      due("set(0, 2)", x.set(0, 2), (1 << n) - 1);
      due("set(0, 2^n - 1) of all", full(n).set(0, (1 << n) - 1), (1 << n) - 1);
    }

    says("-1 (i below 0), -11, -12;");
    for (int n = 3; n <= 6; n++) {
      Furnished.Values index = Furnished.these(new int[] {0, 1, MAX}, -1, MIN);
      Furnished.inOrder(n, "set", (x, a) -> x.set(a[0], a[1]), Furnished.family(), index);
    }

    says("-2: there are not so many.");
    for (int n = 3; n <= 6; n++) {
      Furnished.refused(n, "set(0, 2)", (x, a) -> x.set(0, 2), -2);
      Furnished.refused(n, "set(0, MAX)", (x, a) -> x.set(0, MAX), -2);
      due("set(0, 0) of none", free(n).set(0, 0), -2);
      due("set(0, 2^n) of all", full(n).set(0, 1 << n), -2);
      due("set(0, 64) of all", full(n).set(0, 64), -2);
    }
  }

  private static void isNot(SetHouse x, int kind, int t, int lesser, int other) {
    due("is(0, " + kind + ", " + t + ")", x.is(0, kind, t), 0);
    due("clash()", x.clash(), lesser + 64 * other);
  }

  private static void is() {
    section("Promise 12: is");
    says("Whether a FAMILY would be of a KIND (0 .. 4, with t as of make()): 1, else 0 and the CLASH is told:");
    for (int n = 3; n <= 6; n++) {
      for (int kind = 0; kind <= 4; kind++) {
        for (int t : new int[] {0, n}) {
          SetHouse x = free(n);
          due("is(0, " + kind + ", " + t + ") of none", x.is(0, kind, t), 1);
          due("clash(): none", x.clash(), -2);
        }
      }
      for (int t : new int[] {-1, n + 1, MIN, MAX}) {
        for (int kind : new int[] {0, 1, 3}) due("is(0, " + kind + ", any t)", free(n).is(0, kind, t), 1);
        for (int kind : new int[] {2, 4}) due("is(0, " + kind + ", " + t + ")", free(n).is(0, kind, t), -1);
      }
      SetHouse x = full(n);
      due("is(0, 0, 0) of all", x.is(0, 0, 0), 1);
      due("is(0, 3, 0) of all", x.is(0, 3, 0), 1);
      due("is(0, 2, 0) of all", x.is(0, 2, 0), 1);
      isNot(x, 1, 0, 0, 1);
      isNot(x, 2, 1, 0, 0);
      isNot(x, 4, 0, 1, 1);
      isNot(x, 4, n, 0, 0);
      due("is(0, 3, 0)", x.is(0, 3, 0), 1);
      due("clash() stays", x.clash(), 0);
      due("count(0, 0): nothing else changed", x.count(0, 0), 1 << n);
      due("holds(0)", x.holds(0), 0);
      for (int t = 0; t <= n; t++) {
        int low = (1 << t) - 1;
        due("is(0, 2, t) of t things", free(n, low).is(0, 2, t), 1);
        if (t < n) isNot(free(n, low), 2, t + 1, low, low);
        due("is(0, 4, t) of t things", free(n, low).is(0, 4, t), 1);
      }
    }
    for (int kind = 0; kind <= 4; kind++) {
      due("is() of its own KIND", Furnished.house(4).is(kind, kind, new int[] {0, 0, 1, 0, 2}[kind]), 1);
    }
    due("is(4, 1, 0): a LAYER is APART", Furnished.house(4).is(4, 1, 0), 1);

    says("the first two SETS, the lesser one least, then the other (clash() tells the lesser one, the other as 64 times"
        + " that more):");
    isNot(free(6, 1, 2, 62, 63), 1, 0, 1, 63);
    isNot(free(6, 2, 62, 3, 63, 1), 1, 0, 1, 3);
    isNot(free(6, 32, 63), 1, 0, 32, 63);
    isNot(free(6, 0, 63), 1, 0, 0, 63);
    isNot(free(6, 62, 63), 1, 0, 62, 63);
    isNot(free(4, 3, 5, 12, 10), 2, 1, 3, 12);
    isNot(free(4, 9, 6, 15, 10), 2, 1, 6, 9);
    isNot(free(6, 31, 32), 2, 1, 31, 32);
    // 4 lies within 6, which is less than 9; but 1, which lies within 9, is less than 4
    isNot(free(4, 1, 4, 6, 9), 1, 0, 1, 9);
    // numbers side by side: none is passed over
    isNot(free(4, 1, 2, 6), 1, 0, 2, 6);
    isNot(free(5, 9, 10, 17), 2, 1, 10, 17);
    isNot(free(4, 1, 2, 3), 2, 1, 1, 2);

    says("of LAYER, MEET with itself: twice the same;");
    isNot(free(4, 3, 5, 7, 1), 4, 2, 1, 1);
    isNot(free(6, 63), 4, 5, 63, 63);
    isNot(free(6, 0), 4, 1, 0, 0);
    isNot(free(4, 7, 11, 3), 2, 3, 3, 3);
    isNot(free(4, 8, 9), 2, 2, 8, 8);
    isNot(free(4, 3, 4), 4, 2, 4, 4);
    // 3 shares nothing with 8: 3 is the lesser one, though 8 has too little in itself
    isNot(free(4, 3, 8), 2, 2, 3, 8);
    isNot(free(6, 0), 2, 1, 0, 0);

    says("of DOWN the SET (the other one), and the first one within it that is not there (the lesser).");
    isNot(free(3, 7), 3, 0, 0, 7);
    isNot(free(3, 0, 1, 2, 3, 4, 5, 7), 3, 0, 6, 7);
    isNot(free(3, 0, 6, 7), 3, 0, 2, 6);
    // 12 lacks 4 and 8; 13, the next one, lacks 1, which is less
    isNot(free(4, 0, 12, 13), 3, 0, 4, 12);
    isNot(free(4, 0, 4, 5), 3, 0, 1, 5);
    isNot(free(6, 0, 63), 3, 0, 1, 63);
    isNot(free(6, 63), 3, 0, 0, 63);
    due("is(0, 3, 0) of {the empty SET}", free(3, 0).is(0, 3, 0), 1);
    isNot(free(3, 1), 3, 0, 0, 1);

    says("-1, -11, -12.");
    for (int n = 3; n <= 6; n++) {
      Furnished.Values told = Furnished.these(new int[] {2, 4}, -1, 5, MIN, MAX);
      Furnished.Values others = Furnished.these(new int[] {0, 1, 3}, -1, 5, MIN, MAX);
      Furnished.Values any = Furnished.these(new int[] {MIN, -1, n + 1, MAX});
      Furnished.inOrder(n, "is", (x, a) -> x.is(a[0], a[1], a[2]), Furnished.family(), told, Furnished.range(0, n));
      Furnished.inOrder(n, "is", (x, a) -> x.is(a[0], a[1], a[2]), Furnished.family(), others, any);
    }
  }
}
