/** Promises 34 to 41: what is looked for. */
final class SoughtSentences extends Sentences {
  static void run() {
    flower();
    petal();
    cover();
    loose();
    shattered();
    greatest();
    same();
    turns();
  }

  private static void flower() {
    section("Promise 34: flower");
    says("The first FLOWER of p PETALS: its CORE;");
    for (int n = 3; n <= 6; n++) {
      int last = (1 << n) - 1;
      SetHouse x = free(n, last - 1, last);
      due("flower(0, 2) of the last two SETS", x.flower(0, 2), last - 1);
      petals(x, last - 1, last);
      x = full(n);
      for (int p = 2; p <= Math.min(5, n + 1); p++) {
        due("flower(0, " + p + ") of all: the empty SET and single things", x.flower(0, p), 0);
        due("petal(0)", x.petal(0), 0);
        for (int i = 1; i < p; i++) due("petal(" + i + ")", x.petal(i), 1 << i - 1);
        due("petal(p)", x.petal(p), -2);
      }
      due("flower(0, n + 2) of all", n == 3 ? x.flower(0, 5) : -2, -2);
    }
    SetHouse six = free(6, 33, 35, 37, 41, 49);
    due("flower(0, 5), one of them the CORE", six.flower(0, 5), 33);
    petals(six, 33, 35, 37, 41, 49);

    says("of all the one with the least first PETAL, of these the least second one, and so on.");
    // 3 and 5 stand first, but only 3 and 12 have a third one
    SetHouse x = free(6, 3, 5, 12, 48);
    due("flower(0, 2)", x.flower(0, 2), 1);
    petals(x, 3, 5);
    due("flower(0, 3)", x.flower(0, 3), 0);
    petals(x, 3, 12, 48);
    // 1 has no FLOWER of 3 to stand in
    x = free(6, 1, 6, 10, 18, 7);
    due("flower(0, 3)", x.flower(0, 3), 2);
    petals(x, 6, 10, 18);
    // SETS whose numbers stand side by side: none is passed over, as a first one or a second
    x = free(6, 2, 3, 5, 9);
    due("flower(0, 3)", x.flower(0, 3), 1);
    petals(x, 3, 5, 9);
    x = free(6, 3, 4, 5, 9);
    due("flower(0, 3)", x.flower(0, 3), 1);
    petals(x, 3, 5, 9);
    // of those with 1 and 2 the least third one
    x = free(6, 1, 2, 4, 12, 16, 32);
    due("flower(0, 3)", x.flower(0, 3), 0);
    petals(x, 1, 2, 4);
    due("flower(0, 5)", x.flower(0, 5), 0);
    petals(x, 1, 2, 4, 16, 32);
    // the last PETAL is the least, too
    x = free(6, 1, 2, 4, 8, 24, 16);
    due("flower(0, 4)", x.flower(0, 4), 0);
    petals(x, 1, 2, 4, 8);

    says("-1, -11, -12;");
    for (int n = 3; n <= 6; n++) {
      Furnished.inOrder(n, "flower", (y, a) -> y.flower(a[0], a[1]), Furnished.family(), Furnished.range(2, 5));
    }

    says("-2: there is none.");
    for (int n = 3; n <= 6; n++) {
      due("flower(0, 2) of none", free(n).flower(0, 2), -2);
      due("flower(0, 2) of one", free(n, 7).flower(0, 2), -2);
      due("flower(0, 3) of two", free(n, 1, 7).flower(0, 3), -2);
      Furnished.refused(n, "flower(5, 2) of one", (y, a) -> y.flower(5, 2), -2);
      Furnished.refused(n, "flower(0, 3) of two", (y, a) -> y.flower(0, 3), -2);
      Furnished.refused(n, "flower(4, 3)", (y, a) -> y.flower(4, 3), -2);
      Furnished.refused(n, "flower(3, 5)", (y, a) -> y.flower(3, 5), -2);
    }
  }

  private static void petal() {
    section("Promise 35: petal");
    says("PETAL i, from 0, of the latest flower() that was not refused (by -2, too).");
    SetHouse x = free(4, 1, 2, 4, 8);
    due("flower(0, 4)", x.flower(0, 4), 0);
    petals(x, 1, 2, 4, 8);
    due("flower(0, 5)", x.flower(0, 5), -2);
    petals(x, 1, 2, 4, 8);
    due("flower(0, 6)", x.flower(0, 6), -1);
    due("flower(0, 1)", x.flower(0, 1), -1);
    due("flower(16, 2)", x.flower(16, 2), -1);
    due("flower(1, 2)", x.flower(1, 2), -11);
    x.row(1, 6, 1);
    due("flower(1, 2)", x.flower(1, 2), -12);
    petals(x, 1, 2, 4, 8);
    put(x, 1, 0, 0, 3, 5);
    due("flower(1, 3)", x.flower(1, 3), -2);
    petals(x, 1, 2, 4, 8);
    due("flower(1, 2)", x.flower(1, 2), 1);
    petals(x, 3, 5);
    x.empty(1);
    x.make(0, 0, 0);
    petals(x, 3, 5);
    for (int i = 0; i < FamilyCalls.NAMES.length; i++) {
      if (FamilyCalls.NAMES[i].startsWith("flower")) continue;
      x = Furnished.house(4);
      FamilyCalls.call(x, i, 4, 0);
      petals(x, 3, 5);
    }
    x = Furnished.house(4);
    FamilySentences.othersTaken(x);
    petals(x, 3, 5);

    says("-2: none such (i below 0, too).");
    for (int n = 3; n <= 6; n++) {
      x = free(n, 1, 2);
      for (int i : new int[] {0, 1, -1, 5, MIN, MAX}) due("petal(" + i + ") ahead of each flower()", x.petal(i), -2);
      due("flower(0, 3)", x.flower(0, 3), -2);
      due("petal(0) after one that was refused", x.petal(0), -2);
      due("flower(0, 2)", x.flower(0, 2), 0);
      due("petal(0)", x.petal(0), 1);
      due("petal(1)", x.petal(1), 2);
      for (int i : new int[] {2, 4, 5, 64, -1, -2, MIN, MAX}) due("petal(" + i + ")", x.petal(i), -2);
    }
    x = free(4, 0, 1, 2, 4, 8);
    x.flower(0, 5);
    due("petal(4), the last that can be", x.petal(4), 8);
    due("petal(5)", x.petal(5), -2);
  }

  private static void cover() {
    section("Promise 36: cover");
    says("The COVER with the fewest things, of these the least number.");
    for (int n = 3; n <= 6; n++) {
      int last = (1 << n) - 1;
      due("cover(0) of none", free(n).cover(0), 0);
      due("cover(0) of the whole SET", free(n, last).cover(0), 1);
      due("cover(0) of each thing", free(n, layer(n, 1)).cover(0), last);
      due("cover(0) of all that lack one thing", free(n, layer(n, n - 1)).cover(0), 3);
      due("cover(0) of all that have two things", free(n, layer(n, 2)).cover(0), (1 << n - 1) - 1);
      for (int i = 0; i < n; i++) due("cover(0) of thing " + i, free(n, 1 << i).cover(0), 1 << i);
      // 3 and 5 are less, but each covers one of the two alone
      due("cover(0) of 2 and 4", free(n, 2, 4).cover(0), 6);
      // the last thing covers all; with fewer numbers it would take two
      SetHouse x = free(n);
      for (int i = 0; i < n - 1; i++) fill(x, 0, (1 << i) + (1 << n - 1));
      due("cover(0) of the last thing with each other", x.cover(0), 1 << n - 1);
    }

    says("-1, -11, -12;");
    for (int n = 3; n <= 6; n++) Furnished.inOrder(n, "cover", (x, a) -> x.cover(a[0]), Furnished.family());

    says("-2: there is none.");
    for (int n = 3; n <= 6; n++) {
      due("cover(0) of the empty SET", free(n, 0).cover(0), -2);
      due("cover(0) of all", full(n).cover(0), -2);
      Furnished.refused(n, "cover(15), where the empty SET is", (x, a) -> x.cover(15), -2);
      Furnished.refused(n, "cover(3), where the empty SET is", (x, a) -> x.cover(3), -2);
      SetHouse x = full(n);
      x.drop(0, 0);
      due("cover(0) of all but the empty SET", x.cover(0), (1 << n) - 1);
    }
  }

  private static void loose() {
    section("Promise 37: loose");
    says("The most SETS of it of which no two have a thing in common.");
    for (int n = 3; n <= 6; n++) {
      due("loose(0) of none", free(n).loose(0), 0);
      due("loose(0) of the whole SET", free(n, (1 << n) - 1).loose(0), 1);
      due("loose(0) of each thing", free(n, layer(n, 1)).loose(0), n);
      due("loose(0) of all that have two things", free(n, layer(n, 2)).loose(0), n / 2);
      due("loose(0) of all that lack one thing", free(n, layer(n, n - 1)).loose(0), 1);
      SetHouse x = full(n);
      x.drop(0, 0);
      due("loose(0) of all but the empty SET", x.loose(0), n);
    }
    due("loose(0): not the first that is found", free(6, 6, 3, 12, 48).loose(0), 3);

    says("(The empty one, if it is there, counts.)");
    for (int n = 3; n <= 6; n++) {
      due("loose(0) of the empty SET", free(n, 0).loose(0), 1);
      due("loose(0) of the empty and the whole", free(n, 0, (1 << n) - 1).loose(0), 2);
      due("loose(0) of all", full(n).loose(0), n + 1);
    }

    says("-1, -11, -12.");
    for (int n = 3; n <= 6; n++) Furnished.inOrder(n, "loose", (x, a) -> x.loose(a[0]), Furnished.family());
  }

  private static void shattered() {
    section("Promise 38: shattered");
    says("How many SETS are SHATTERED (set -1: all of them; else whether that one is).");
    for (int n = 3; n <= 6; n++) {
      int last = (1 << n) - 1;
      SetHouse x = free(n);
      due("shattered(0, -1) of none", x.shattered(0, -1), 0);
      due("shattered(0, 0) of none", x.shattered(0, 0), 0);
      due("shattered(0, 2^n - 1) of none", x.shattered(0, last), 0);
      fill(x, 0, 5);
      due("shattered(0, -1) of one", x.shattered(0, -1), 1);
      due("shattered(0, 0) of one", x.shattered(0, 0), 1);
      due("shattered(0, 5) of one", x.shattered(0, 5), 0);
      x = full(n);
      due("shattered(0, -1) of all", x.shattered(0, -1), 1 << n);
      due("shattered(0, 0) of all", x.shattered(0, 0), 1);
      due("shattered(0, 2^n - 1) of all", x.shattered(0, last), 1);
      x.drop(0, last);
      due("shattered(0, -1) of all but one", x.shattered(0, -1), last);
      due("shattered(0, 2^n - 1) of all but one", x.shattered(0, last), 0);
      due("shattered(0, 2^n - 2) of all but one", x.shattered(0, last - 1), 1);
      x = free(n, 0, last);
      due("shattered(0, -1) of two: none and each single thing", x.shattered(0, -1), n + 1);
    }

    says("-1, -11, -12.");
    for (int n = 3; n <= 6; n++) {
      Furnished.Values set = Furnished.these(new int[] {-1, 0, (1 << n) - 1}, -2, 1 << n, MIN, MAX);
      Furnished.inOrder(n, "shattered", (x, a) -> x.shattered(a[0], a[1]), Furnished.family(), set);
    }
  }

  /** The greatest FAMILIES as Erdos, Ko and Rado, and Ahlswede and Khachatrian, say how many SETS they have. */
  private static int most(int n, int k, int t) {
    int most = 0;
    for (int r = 0; t + 2 * r <= n; r++) {
      int many = 0;
      for (int s : layer(n, k)) many += Integer.bitCount(s & (1 << t + 2 * r) - 1) >= t + r ? 1 : 0;
      most = Math.max(most, many);
    }
    return most;
  }

  private static void greatest() {
    section("Promise 39: greatest");
    says("The greatest FAMILY of SETS of SIZE k of which any two have at least t things in common (t 1 .. k):");
    for (int n = 3; n <= 6; n++) {
      for (int k = 1; k <= n; k++) {
        for (int t = 1; t <= k; t++) {
          SetHouse x = new SetHouse(n - 3);
          due("greatest(" + k + ", " + t + ", 0) of " + n, x.greatest(k, t, 0), most(n, k, t));
          due("is(0, 2, t)", x.is(0, 2, t), 1);
          due("is(0, 4, k)", x.is(0, 4, k), 1);
        }
        SetHouse x = new SetHouse(n - 3);
        due("greatest(k, k, 0): one alone", x.greatest(k, k, 0), 1);
        sets(x, 0, (1 << k) - 1);
      }
      SetHouse x = new SetHouse(n - 3);
      due("greatest(1, 1, 0)", x.greatest(1, 1, 0), 1);
      due("greatest(n, n, 0)", x.greatest(n, n, 0), 1);
      sets(x, 0, (1 << n) - 1);
      // any two share something wherever 2 k is more than n: the whole LAYER
      due("greatest(n - 1, 1, 0)", x.greatest(n - 1, 1, 0), n);
      sets(x, 0, layer(n, n - 1));
    }

    says("it comes to a PLACE, a LAYER;");
    for (int place = 0; place < 16; place++) {
      SetHouse x = Furnished.house(4);
      due("greatest(3, 3, " + place + ")", x.greatest(3, 3, place), 1);
      family(x, place, 4, 3, 7);
    }

    says("of several the one that has the least SET that is not in both.");
    SetHouse four = new SetHouse(1);
    due("greatest(2, 1, 0) of four", four.greatest(2, 1, 0), 3);
    // {3, 5, 9}, which have thing 0, are as many: 6 is less than 9
    sets(four, 0, 3, 5, 6);
    SetHouse six = new SetHouse(3);
    due("greatest(3, 1, 0) of six", six.greatest(3, 1, 0), 10);
    sets(six, 0, 7, 11, 13, 14, 19, 21, 22, 25, 26, 28);
    due("greatest(3, 2, 0) of six", six.greatest(3, 2, 0), 4);
    sets(six, 0, 7, 11, 13, 14);
    due("greatest(2, 1, 0) of six: more than three", six.greatest(2, 1, 0), 5);
    sets(six, 0, 3, 5, 9, 17, 33);
    due("greatest(4, 3, 0) of six", six.greatest(4, 3, 0), 5);
    sets(six, 0, 15, 23, 27, 29, 30);

    says("-1: k is not 1 .. n, t.");
    for (int n = 3; n <= 6; n++) {
      for (int k = 1; k <= n; k++) {
        int size = k;
        Furnished.inOrder(n, "greatest, k " + k + ", ", (x, a) -> x.greatest(size, a[0], a[1]),
            Furnished.range(1, k), Furnished.place());
      }
      Furnished.inOrder(n, "greatest", (x, a) -> x.greatest(a[0], a[1], a[2]),
          Furnished.range(1, n), Furnished.these(new int[] {1}, 0, n + 1, MIN, MAX), Furnished.place());
    }

    says("How many SETS.");
    SetHouse x = new SetHouse(3);
    due("greatest(3, 1, 0)", x.greatest(3, 1, 0), x.count(0, 0));
    due("drop(0, 7)", x.drop(0, 7), 9);
    due("greatest(3, 1, 1) again", x.greatest(3, 1, 1), 10);
    due("count(1, 0)", x.count(1, 0), 10);
  }

  private static void same() {
    section("Promise 40: same");
    says("The least TURN (things that 0, 1, .. become compared in that order) that makes of the one FAMILY's SETS the"
        + " other's;");
    for (int n = 3; n <= 6; n++) {
      int as = asItIs(n);
      SetHouse x = free(n);
      put(x, 1, 3, 0);
      due("same(0, 1) of none", x.same(0, 1), as);
      due("same(0, 0) of all", full(n).same(0, 0), as);
      put(x, 0, 0, 0, 1);
      put(x, 1, 0, 0, 1 << n - 1);
      // 0 becomes n - 1; 1, 2, .. become 0, 1, ..
      int forward = n - 1;
      for (int i = 1; i < n; i++) forward += i - 1 << 3 * i;
      due("same(0, 1): 0 becomes the last", x.same(0, 1), forward);
      // n - 1 becomes 0; 0, 1, .. become 1, 2, ..
      int back = 0;
      for (int i = 0; i < n - 1; i++) back += i + 1 << 3 * i;
      due("same(1, 0): the last becomes 0", x.same(1, 0), back);
      // a staircase up and one down: just one TURN does it
      put(x, 0, 0, 0);
      put(x, 1, 0, 0);
      for (int i = 1; i < n; i++) {
        fill(x, 0, (1 << i) - 1);
        fill(x, 1, (1 << n) - (1 << n - i));
      }
      due("same(up, down)", x.same(0, 1), backwards(n));
      due("same(down, up)", x.same(1, 0), backwards(n));
    }
    // the TURN is 3 1 0 2; as a number 3 1 2 0 would be less, but 2 becomes 0 ahead of 3
    SetHouse x = free(4, 1, 3);
    put(x, 1, 0, 0, 8, 10);
    due("same(0, 1)", x.same(0, 1), 3 + 8 + 512 * 2);
    due("same(1, 0)", x.same(1, 0), 2 + 8 + 64 * 3);

    says("-2: there is none.");
    for (int n = 3; n <= 6; n++) {
      Furnished.refused(n, "same(0, 15): unlike SIZES", (y, a) -> y.same(0, 15), -2);
      Furnished.refused(n, "same(0, 5): unlike many", (y, a) -> y.same(0, 5), -2);
      x = full(n);
      x.make(1, 0, 0);
      due("same(all, none)", x.same(0, 1), -2);
      due("same(none, all)", x.same(1, 0), -2);
      put(x, 1, 0, 0, 0);
      put(x, 2, 0, 0, (1 << n) - 1);
      due("same(the empty SET, the whole)", x.same(1, 2), -2);
    }
    x = free(4, 3, 6, 12);
    put(x, 1, 0, 0, 3, 5, 9);
    due("same(a path, a star), as many of each SIZE", x.same(0, 1), -2);

    says("-1, -11, -12.");
    for (int n = 3; n <= 6; n++) {
      Furnished.inOrder(n, "same", (y, a) -> y.same(a[0], a[1]), Furnished.family(), Furnished.family());
    }
  }

  private static void turns() {
    section("Promise 41: turns");
    says("How many TURNS leave its SETS as they are.");
    for (int n = 3; n <= 6; n++) {
      due("turns(0) of none", free(n).turns(0), factorial(n));
      due("turns(0) of all", full(n).turns(0), factorial(n));
      due("turns(0) of the empty SET", free(n, 0).turns(0), factorial(n));
      due("turns(0) of the whole SET", free(n, (1 << n) - 1).turns(0), factorial(n));
      SetHouse staircase = free(n);
      for (int i = 1; i < n; i++) fill(staircase, 0, (1 << i) - 1);
      due("turns(0) of a staircase: as it is alone", staircase.turns(0), 1);
      for (int k = 0; k <= n; k++) {
        SetHouse x = free(n, (1 << k) - 1);
        due("turns(0) of one SET of SIZE " + k, x.turns(0), factorial(k) * factorial(n - k));
        x.first(k, choose(n, k), 0);
        due("turns(0) of LAYER " + k, x.turns(0), factorial(n));
      }
    }

    says("-1, -11, -12.");
    for (int n = 3; n <= 6; n++) Furnished.inOrder(n, "turns", (x, a) -> x.turns(a[0]), Furnished.family());
  }
}
