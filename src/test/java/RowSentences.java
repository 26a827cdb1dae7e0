/** Promises 42 to 48: ROWS, and what FAMILIES weigh and throw. */
final class RowSentences extends Sentences {
  static void run() {
    row();
    put();
    element();
    copy();
    take();
    heft();
    toss();
  }

  private static void row() {
    section("Promise 42: row");
    says("A PLACE holds a ROW of m numbers 0 (sort 6 bytes, 7 ints, 8 longs; m up to 64): 0.");
    for (int sort = 6; sort <= 8; sort++) {
      for (int m : new int[] {0, 1, 63, 64}) {
        SetHouse x = new SetHouse(0);
        due("row(15, " + sort + ", " + m + ")", x.row(15, sort, m), 0);
        due("holds(15)", x.holds(15), sort);
        row(x, 15, new long[m]);
      }
      // whatever was there, numbers too
      for (int place = 0; place < 16; place++) {
        SetHouse x = Furnished.house(4);
        due("row(" + place + ", " + sort + ", 5)", x.row(place, sort, 5), 0);
        due("holds(" + place + ")", x.holds(place), sort);
        row(x, place, 0, 0, 0, 0, 0);
        due("count(" + place + ", 0)", x.count(place, 0), -12);
      }
      SetHouse x = new SetHouse(0);
      for (int m : new int[] {65, 66, MAX}) due("row(0, " + sort + ", " + m + ")", x.row(0, sort, m), -1);
      due("holds(0)", x.holds(0), -2);
    }
    SetHouse x = new SetHouse(0);
    rowOf(x, 0, 8, 7, 7, 7, 7);
    due("row(0, 8, 2), shorter", x.row(0, 8, 2), 0);
    row(x, 0, 0, 0);
    due("row(0, 8, 4), longer again", x.row(0, 8, 4), 0);
    row(x, 0, 0, 0, 0, 0);

    says("-1;");
    Furnished.inOrder(4, "row", (y, a) -> y.row(a[0], a[1], a[2]), Furnished.place(), Furnished.range(6, 8),
        Furnished.these(new int[] {0, 64}, 65, MAX));

    says("-14: m is below 0.");
    for (int m : new int[] {-1, -64, MIN}) {
      for (int sort = 6; sort <= 8; sort++) {
        for (int place = 0; place < 16; place++) {
          int[] at = {place, sort};
          Furnished.refused(4, "row(.., .., " + m + ")", (y, a) -> y.row(at[0], at[1], m), -14);
        }
      }
      for (int place : Furnished.NO_PLACES) Furnished.refused(4, "row", (y, a) -> y.row(place, 6, m), -1);
      for (int sort : new int[] {5, 9, MIN, MAX}) Furnished.refused(4, "row", (y, a) -> y.row(0, sort, m), -1);
    }
  }

  private static void put() {
    section("Promise 43: put");
    says("Number i of a ROW becomes v, cut to the sort: 0.");
    long[] v = {
      0, -1, 127, 128, -128, -129, 255, 256, 257, -256, MAX, MAX + 1L, MIN, MIN - 1L, 1L << 32, (1L << 32) - 1,
      (1L << 32) + 5, -(1L << 32), Long.MAX_VALUE, Long.MIN_VALUE,
    };
    long[] bytes = {0, -1, 127, -128, -128, 127, -1, 0, 1, 0, -1, 0, 0, -1, 0, -1, 5, 0, -1, 0};
    long[] ints = {
      0, -1, 127, 128, -128, -129, 255, 256, 257, -256, MAX, MIN, MIN, MAX, 0, -1, 5, 0, -1, 0,
    };
    SetHouse x = new SetHouse(0);
    for (int sort = 6; sort <= 8; sort++) x.row(sort, sort, 2);
    for (int i = 0; i < v.length; i++) {
      for (int sort = 6; sort <= 8; sort++) {
        due("put(" + sort + ", 1, " + v[i] + ")", x.put(sort, 1, v[i]), 0);
        row(x, sort, 0, sort == 6 ? bytes[i] : sort == 7 ? ints[i] : v[i]);
      }
    }
    x.row(0, 8, 64);
    due("put(0, 0, 3), the first of 64", x.put(0, 0, 3), 0);
    due("put(0, 63, 4), the last of 64", x.put(0, 63, 4), 0);
    due("element(0, 0)", x.element(0, 0), 3);
    due("element(0, 1)", x.element(0, 1), 0);
    due("element(0, 62)", x.element(0, 62), 0);
    due("element(0, 63)", x.element(0, 63), 4);

    says("-1 (PLACE alone), -11, -12, -13.");
    int[] length = {4, 3, 2, 0};
    int[] far = {-1, 64, 1000, MIN, MAX};
    for (int i : far) {
      for (int place : Furnished.NO_PLACES) refusedPut(place, i, -1);
      for (int place : Furnished.EMPTY) refusedPut(place, i, -11);
      for (int place : Furnished.FAMILIES) refusedPut(place, i, -12);
      for (int place : Furnished.ROWS) refusedPut(place, i, -13);
    }
    for (int place : Furnished.NO_PLACES) refusedPut(place, 0, -1);
    for (int place : Furnished.EMPTY) refusedPut(place, 0, -11);
    for (int place : Furnished.FAMILIES) refusedPut(place, 0, -12);
    for (int r = 0; r < 4; r++) {
      refusedPut(Furnished.ROWS[r], length[r], -13);
      if (length[r] > 0) due("put at the last", Furnished.house(4).put(Furnished.ROWS[r], length[r] - 1, 0), 0);
    }
    x.row(0, 6, 64);
    due("put(0, 64, 1) of 64", x.put(0, 64, 1), -13);
  }

  private static void refusedPut(int place, int i, int want) {
    Furnished.refused(4, "put(" + place + ", " + i + ", 9)", (x, a) -> x.put(place, i, 9), want);
  }

  private static void element() {
    section("Promise 44: element");
    says("Number i of a ROW.");
    SetHouse x = new SetHouse(0);
    for (int sort = 6; sort <= 8; sort++) {
      x.row(0, sort, 64);
      x.put(0, 0, -7);
      x.put(0, 63, 8);
      due("element(0, 0)", element(x, 0, 0), -7);
      due("element(0, 1)", element(x, 0, 1), 0);
      due("element(0, 63)", element(x, 0, 63), 8);
    }

    says("IllegalArgumentException: no such PLACE;");
    for (int place : Furnished.NO_PLACES) {
      for (int i : new int[] {0, -1, 64, MIN, MAX}) refusedElement(place, i, BAD_ARGUMENT);
    }

    says("IllegalStateException: it holds no ROW, or one without such a place.");
    for (int i : new int[] {0, -1, 64, MIN, MAX}) {
      for (int place : Furnished.EMPTY) refusedElement(place, i, BAD_STATE);
      for (int place : Furnished.FAMILIES) refusedElement(place, i, BAD_STATE);
    }
    int[] length = {4, 3, 2, 0};
    for (int r = 0; r < 4; r++) {
      for (int i : new int[] {-1, length[r], 63, 64, MIN, MAX}) refusedElement(Furnished.ROWS[r], i, BAD_STATE);
    }
    x.row(0, 6, 64);
    due("element(0, 64) of 64", element(x, 0, 64), BAD_STATE);
    x.empty(0);
    due("element(0, 0) where a ROW was", element(x, 0, 0), BAD_STATE);
    x.make(0, 0, 0);
    due("element(0, 0) of a FAMILY", element(x, 0, 0), BAD_STATE);
  }

  private static void refusedElement(int place, int i, long want) {
    Furnished.refused(4, "element(" + place + ", " + i + ")", (x, a) -> element(x, place, i), (int) want);
  }

  private static void copy() {
    section("Promise 45: copy");
    says("m numbers of a ROW, from place i, come to another one, from place j (as they all were before): m.");
    for (int sort = 6; sort <= 8; sort++) {
      SetHouse x = new SetHouse(0);
      rowOf(x, 0, sort, 1, 2, 3, 4, 5);
      rowOf(x, 1, sort, 11, 12, 13);
      due("copy(0, 2, 1, 0, 3), all of it", x.copy(0, 2, 1, 0, 3), 3);
      row(x, 1, 3, 4, 5);
      due("copy(0, 0, 1, 2, 1), to the last", x.copy(0, 0, 1, 2, 1), 1);
      row(x, 1, 3, 4, 1);
      row(x, 0, 1, 2, 3, 4, 5);
      due("copy(0, 0, 0, 1, 4), upwards in itself", x.copy(0, 0, 0, 1, 4), 4);
      row(x, 0, 1, 1, 2, 3, 4);
      due("copy(0, 1, 0, 0, 4), downwards in itself", x.copy(0, 1, 0, 0, 4), 4);
      row(x, 0, 1, 2, 3, 4, 4);
      due("copy(0, 0, 0, 0, 5), to where it is", x.copy(0, 0, 0, 0, 5), 5);
      row(x, 0, 1, 2, 3, 4, 4);
      x.row(2, sort, 64);
      x.row(3, sort, 64);
      x.put(2, 63, 9);
      due("copy(2, 0, 3, 0, 64), the longest", x.copy(2, 0, 3, 0, 64), 64);
      due("element(3, 63)", x.element(3, 63), 9);
    }

    says("-1, -11: of either (ahead of -12);");
    int[] places = {-1, 16, MIN, MAX, 10, 14, 0, 3, 5, 15, 6};
    for (int place : places) {
      for (int other : places) {
        int want = copyRefusal(place, other);
        if (want == 0) continue;
        for (int m : new int[] {0, -1, 99}) {
          int[] at = {place, other};
          Furnished.refused(4, "copy(" + place + ", 0, " + other + ", 0, " + m + ")",
              (x, a) -> x.copy(at[0], 0, at[1], 0, m), want);
        }
      }
    }

    says("-12: one is no ROW, or they are of unlike sorts;");
    for (int row : Furnished.ROWS) {
      for (int family : Furnished.FAMILIES) {
        int[] at = {row, family};
        Furnished.refused(4, "copy(" + row + ", .., " + family + ")", (x, a) -> x.copy(at[0], 0, at[1], 0, 0), -12);
        Furnished.refused(4, "copy(" + family + ", .., " + row + ")", (x, a) -> x.copy(at[1], 0, at[0], 0, 0), -12);
        Furnished.refused(4, "copy(" + family + ", .., itself)", (x, a) -> x.copy(at[1], 0, at[1], 0, 0), -12);
      }
    }
    int[][] unlike = {{6, 7}, {7, 6}, {6, 8}, {8, 6}, {7, 8}, {8, 7}, {9, 7}, {8, 9}};
    for (int[] u : unlike) {
      // ahead of -13, too
      for (int m : new int[] {0, 1, -1, 99}) {
        Furnished.refused(4, "copy of unlike sorts", (x, a) -> x.copy(u[0], 0, u[1], 0, m), -12);
      }
    }
    due("copy of like sorts", Furnished.house(4).copy(6, 0, 9, 0, 0), 0);

    copyBeyond();
  }

  private static int copyRefusal(int place, int other) {
    if (place < 0 || place > 15 || other < 0 || other > 15) return -1;
    if (place == 10 || place == 14 || other == 10 || other == 14) return -11;
    return place == 6 && other == 6 ? 0 : -12;
  }

  private static void copyBeyond() {
    says("-13: m, i or j is below 0, or beyond either's end (m 0 at the end is not).");
    SetHouse x = new SetHouse(0);
    x.row(0, 7, 5);
    x.row(1, 7, 3);
    for (int m : new int[] {MIN, -1, 0, 1, 2, 3, 4, 5, 6, MAX - 1, MAX}) {
      for (int i : new int[] {MIN, -1, 0, 1, 2, 4, 5, 6, MAX}) {
        x = new SetHouse(0);
        x.row(0, 7, 5);
        x.row(1, 7, 3);
        for (int j : new int[] {MIN, -1, 0, 1, 2, 3, 4, MAX}) {
          boolean fits = m >= 0 && i >= 0 && j >= 0 && (long) i + m <= 5 && (long) j + m <= 3;
          due("copy(0, " + i + ", 1, " + j + ", " + m + ")", x.copy(0, i, 1, j, m), fits ? m : -13);
        }
      }
    }
    due("copy(0, 5, 1, 3, 0), both at the end", x.copy(0, 5, 1, 3, 0), 0);
    due("copy(0, 6, 1, 3, 0), one beyond it", x.copy(0, 6, 1, 3, 0), -13);
    due("copy(0, 5, 1, 4, 0), the other beyond it", x.copy(0, 5, 1, 4, 0), -13);
    x.row(2, 7, 0);
    due("copy(2, 0, 2, 0, 0) of no numbers", x.copy(2, 0, 2, 0, 0), 0);
    due("copy(2, 0, 0, 0, 1) of no numbers", x.copy(2, 0, 0, 0, 1), -13);
    int[][] beyond = {{0, 0, 1}, {4, 0, 1}, {5, 0, 0}, {0, 1, 0}, {-1, 0, 0}, {0, -1, 0}, {0, 0, -1}, {MAX, 0, MAX}};
    for (int[] b : beyond) {
      Furnished.refused(4, "copy(6, .., 9, ..)", (y, a) -> y.copy(6, b[0], 9, b[1], b[2]), -13);
    }
    // 4 of its numbers fit from place 0 on, from place 1 on they do not: none is copied
    Furnished.refused(4, "copy(6, 0, 6, 1, 4)", (y, a) -> y.copy(6, 0, 6, 1, 4), -13);
    Furnished.refused(4, "copy(6, 1, 6, 0, 4)", (y, a) -> y.copy(6, 1, 6, 0, 4), -13);
  }

  private static void take() {
    section("Promise 46: take");
    says("The numbers of a ROW, one by one, come to a FAMILY, up to the first that is no SET, or would be refused (-3:"
        + " the CLASH is told):");
    for (int n = 3; n <= 6; n++) {
      long last = (1 << n) - 1;
      SetHouse x = free(n);
      rowOf(x, 1, 8, 0, last, last + 1, 1);
      due("take(1, 0): 2^n is no SET", x.take(1, 0), 2);
      sets(x, 0, 0, (int) last);
      for (long no : new long[] {-1, last + 1, Long.MIN_VALUE, Long.MAX_VALUE, 1L << 32, (1L << 32) + 1, MIN, 1L << 63}) {
        put(x, 0, 0, 0);
        rowOf(x, 1, 8, 2, no, 1);
        due("take(1, 0) up to " + no, x.take(1, 0), 1);
        sets(x, 0, 2);
      }
      due("clash(): no SET tells none", x.clash(), -2);
      rowOf(x, 1, 6, 255, 1);
      due("take(1, 0): 255 as a byte is below 0", x.take(1, 0), 0);
      rowOf(x, 1, 6, 256 + 5, 1);
      due("take(1, 0): 261 as a byte is 5", x.take(1, 0), 2);
      rowOf(x, 1, 7, (1L << 32) + 3);
      due("take(1, 0): cut to an int it is 3", x.take(1, 0), 1);
      sets(x, 0, 1, 2, 3, 5);
    }
    // one by one: what came counts for those that follow
    SetHouse x = of(3, 3, 0);
    rowOf(x, 1, 7, 0, 1, 2, 3, 7, 4);
    due("take(1, 0) of DOWN", x.take(1, 0), 4);
    due("clash()", x.clash(), 4);
    sets(x, 0, 0, 1, 2, 3);
    put(x, 0, 1, 0);
    rowOf(x, 1, 6, 1, 6, 3, 4);
    due("take(1, 0) of APART", x.take(1, 0), 2);
    due("clash()", x.clash(), 1);
    put(x, 0, 2, 2);
    rowOf(x, 1, 6, 4, 7);
    due("take(1, 0) of MEET: the first is refused", x.take(1, 0), 0);
    due("clash()", x.clash(), 4);
    sets(x, 0);
    put(x, 0, 4, 1);
    rowOf(x, 1, 8, 1, 2, 4, 0);
    due("take(1, 0) of a LAYER", x.take(1, 0), 3);
    due("clash()", x.clash(), 0);
    put(x, 2, 0, 0, 6);
    x.cross(0, 2, 1);
    rowOf(x, 1, 8, 2, 3, 1);
    due("take(1, 0) of CROSS", x.take(1, 0), 2);
    due("clash()", x.clash(), 2);

    says("how many were taken (also such as are there).");
    for (int n = 3; n <= 6; n++) {
      x = free(n);
      x.row(1, 8, 0);
      due("take(1, 0) of no numbers", x.take(1, 0), 0);
      x.row(1, 8, 64);
      due("take(1, 0) of 64 times 0", x.take(1, 0), 64);
      sets(x, 0, 0);
      for (int i = 0; i < 64; i++) x.put(1, i, i % (1 << n));
      due("take(1, 0) of all", x.take(1, 0), 64);
      due("count(0, 0)", x.count(0, 0), 1 << n);
      due("take(1, 0) again", x.take(1, 0), 64);
      for (int i = 0; i < 64; i++) due("element(1, " + i + ") stays", element(x, 1, i), i % (1 << n));
    }
    x = of(3, 1, 0, 3);
    rowOf(x, 1, 6, 3, 3, 4);
    due("take(1, 0) of APART, such as are there", x.take(1, 0), 3);

    says("-1, -11, -12 (the ROW first, for both).");
    for (int n = 3; n <= 6; n++) {
      Furnished.inOrder(n, "take", (y, a) -> y.take(a[0], a[1]), Furnished.row(), Furnished.family());
    }
  }

  private static void heft() {
    section("Promise 47: heft");
    says("The HEFT of a FAMILY: how many SETS and 10;");
    for (int n = 3; n <= 6; n++) {
      due("heft(0) of none", free(n).heft(0), 10);
      due("heft(0) of one", free(n, 0).heft(0), 11);
      due("heft(0) of all", full(n).heft(0), (1 << n) + 10);
    }

    says("of APART ones 100 more, of LAYERS twice what they would have as APART;");
    for (int n = 3; n <= 6; n++) {
      due("heft(0) of APART, none", of(n, 1, 0).heft(0), 110);
      due("heft(0) of APART", of(n, 1, 0, layer(n, 2)).heft(0), 110 + choose(n, 2));
      for (int t = 0; t <= n; t++) {
        due("heft(0) of a LAYER, none", of(n, 4, t).heft(0), 220);
        due("heft(0) of a LAYER", of(n, 4, t, layer(n, t)).heft(0), 2 * (110 + choose(n, t)));
      }
    }

    says("of MEET ones t more than FREE, of CROSS ones that, and how many SETS the PARTNER has;");
    for (int n = 3; n <= 6; n++) {
      for (int t = 0; t <= n; t++) {
        due("heft(0) of MEET, none", of(n, 2, t).heft(0), 10 + t);
        SetHouse x = of(n, 2, t, (1 << n) - 1);
        due("heft(0) of MEET", x.heft(0), 11 + t);
        x.rest(0, false, 1);
        x.make(2, 0, 0);
        x.cross(3, 1, t);
        x.cross(4, 2, t);
        due("heft(3) of CROSS, none", x.heft(3), 10 + t + (1 << n) - 1);
        due("heft(4) of CROSS, none, whose PARTNER has none", x.heft(4), 10 + t);
        fill(x, 4, (1 << n) - 1);
        due("heft(4) of CROSS", x.heft(4), 11 + t);
      }
    }

    says("of DOWN ones 1000 more.");
    for (int n = 3; n <= 6; n++) {
      due("heft(0) of DOWN, none", of(n, 3, 0).heft(0), 1010);
      SetHouse x = full(n);
      x.closed(0, false, 0);
      due("heft(0) of DOWN, all", x.heft(0), 1010 + (1 << n));
      due("heft(0) of DOWN, whatever t was", of(n, 3, n).heft(0), 1010);
    }

    says("-1, -11, -12.");
    for (int n = 3; n <= 6; n++) Furnished.inOrder(n, "heft", (x, a) -> x.heft(a[0]), Furnished.family());
  }

  private static void toss() {
    section("Promise 48: toss");
    says("The FAILURE of a FAMILY is thrown, and caught: t of MEET, LAYER, CROSS.");
    for (int n = 3; n <= 6; n++) {
      for (int t = 0; t <= n; t++) {
        SetHouse x = of(n, 2, t);
        x.make(1, 4, t);
        x.cross(2, 0, t);
        for (int place = 0; place < 3; place++) {
          due("toss(" + place + ")", x.toss(place), t);
          due("toss(" + place + ") again", x.toss(place), t);
          due("count(" + place + ", 1)", x.count(place, 1), t);
        }
      }
    }

    says("-1, -11, -12;");
    for (int n = 3; n <= 6; n++) {
      for (int place : Furnished.NO_PLACES) Furnished.refused(n, "toss(" + place + ")", (x, a) -> x.toss(place), -1);
      for (int place : Furnished.EMPTY) Furnished.refused(n, "toss(" + place + ")", (x, a) -> x.toss(place), -11);
      for (int place : Furnished.ROWS) Furnished.refused(n, "toss(" + place + ")", (x, a) -> x.toss(place), -12);
    }

    says("-15: others have none.");
    for (int n = 3; n <= 6; n++) {
      for (int place : new int[] {0, 1, 3, 15}) {
        Furnished.refused(n, "toss(" + place + ")", (x, a) -> x.toss(place), -15);
      }
      for (int kind : new int[] {0, 1, 3}) due("toss(0) of KIND " + kind, of(n, kind, 2).toss(0), -15);
      // t is gone with the KIND
      SetHouse x = of(n, 2, 2, 3);
      x.push(0, 1, 0);
      due("toss(0) after push()", x.toss(0), -15);
    }
  }
}
