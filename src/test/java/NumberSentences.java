/** Promises 24 to 33: numbers. */
final class NumberSentences extends Sentences {
  static void run() {
    sum();
    rank();
    ranked();
    cascade();
    least();
    chain();
    ring();
    weight();
    matters();
    product();
  }

  private static void sum() {
    section("Promise 24: sum");
    says("The sum over its SETS of SIZE! (n - SIZE)!, which is n! times that of 1 / C(n, SIZE).");
    for (int n = 3; n <= 6; n++) {
      due("sum(0) of none", free(n).sum(0), 0);
      due("sum(0) of all", full(n).sum(0), (n + 1) * factorial(n));
      due("sum(0) of the empty SET", free(n, 0).sum(0), factorial(n));
      due("sum(0) of the whole SET", free(n, (1 << n) - 1).sum(0), factorial(n));
      for (int k = 0; k <= n; k++) {
        SetHouse x = free(n, (1 << k) - 1);
        due("sum(0) of one SET of SIZE " + k, x.sum(0), factorial(k) * factorial(n - k));
        x.first(k, choose(n, k), 0);
        due("sum(0) of LAYER " + k, x.sum(0), factorial(n));
      }
    }

    says("-1, -11, -12.");
    for (int n = 3; n <= 6; n++) Furnished.inOrder(n, "sum", (x, a) -> x.sum(a[0]), Furnished.family());
  }

  private static void rank() {
    section("Promise 25: rank");
    says("RANK of a SET.");
    for (int n = 3; n <= 6; n++) {
      SetHouse x = new SetHouse(n - 3);
      due("rank(0)", x.rank(0), 0);
      due("rank(2^n - 1)", x.rank((1 << n) - 1), 0);
      due("rank(1)", x.rank(1), 0);
      due("rank(2^(n - 1)), the last of LAYER 1", x.rank(1 << n - 1), n - 1);
      due("rank(2^n - 2), the last of LAYER n - 1", x.rank((1 << n) - 2), n - 1);
      due("rank(2^(n - 1) - 1), the first of it", x.rank((1 << n - 1) - 1), 0);
    }

    says("-1.");
    for (int n = 3; n <= 6; n++) {
      Furnished.inOrder(n, "rank", (x, a) -> x.rank(a[0]), Furnished.range(0, (1 << n) - 1));
    }
  }

  private static void ranked() {
    section("Promise 26: ranked");
    says("The SET of LAYER k with a RANK.");
    for (int n = 3; n <= 6; n++) {
      SetHouse x = new SetHouse(n - 3);
      for (int k = 0; k <= n; k++) {
        int[] layer = layer(n, k);
        for (int r = 0; r < layer.length; r++) due("ranked(" + k + ", " + r + ")", x.ranked(k, r), layer[r]);
      }
    }

    says("-1 (a RANK below 0, too);");
    for (int n = 3; n <= 6; n++) {
      Furnished.Values rank = Furnished.these(new int[] {0, 1, MAX}, -1, MIN);
      Furnished.inOrder(n, "ranked", (x, a) -> x.ranked(a[0], a[1]), Furnished.range(0, n), rank);
    }

    says("-2: there is none.");
    for (int n = 3; n <= 6; n++) {
      for (int k = 0; k <= n; k++) {
        int size = k;
        for (int rank : new int[] {choose(n, k), choose(n, k) + 1, 64, MAX}) {
          Furnished.refused(n, "ranked(" + k + ", " + rank + ")", (x, a) -> x.ranked(size, rank), -2);
        }
      }
    }
  }

  private static void cascaded(int m, int k, int... want) {
    SetHouse x = new SetHouse(0);
    for (int i = 0; i < want.length; i++) due("cascade(" + m + ", " + k + ", " + i + ")", x.cascade(m, k, i), want[i]);
    for (int i : new int[] {want.length, want.length + 1, MAX}) {
      due("cascade(" + m + ", " + k + ", " + i + ")", x.cascade(m, k, i), -2);
    }
  }

  private static void cascade() {
    section("Promise 27: cascade");
    says("Number i, from 0, of CASCADE of m (1 .. 1000) from k (1 .. 6) on: a;");
    cascaded(1, 1, 1);
    cascaded(1000, 1, 1000);
    cascaded(1, 6, 6);
    cascaded(1000, 6, 12, 8, 6, 4, 2);
    cascaded(1000, 2, 45, 10);
    cascaded(999, 1, 999);
    cascaded(10, 3, 5);
    cascaded(9, 3, 4, 3, 2);
    cascaded(11, 3, 5, 2);
    // it goes down to 1: six numbers are the most
    cascaded(6, 6, 6, 5, 4, 3, 2, 1);
    cascaded(7, 6, 7);

    says("-2: it has not so many.");
    for (int n = 3; n <= 6; n++) {
      for (int i : new int[] {1, 2, MAX}) {
        Furnished.refused(n, "cascade(10, 3, " + i + ")", (x, a) -> x.cascade(10, 3, i), -2);
      }
      Furnished.refused(n, "cascade(6, 6, 6)", (x, a) -> x.cascade(6, 6, 6), -2);
      Furnished.refused(n, "cascade(1000, 1, 1)", (x, a) -> x.cascade(1000, 1, 1), -2);
    }

    says("-1 (i below 0, too).");
    for (int n = 3; n <= 6; n++) {
      Furnished.Values index = Furnished.these(new int[] {0, 5, MAX}, -1, MIN);
      Furnished.inOrder(n, "cascade", (x, a) -> x.cascade(a[0], a[1], a[2]),
          Furnished.range(1, 1000), Furnished.range(1, 6), index);
    }
  }

  private static void least() {
    section("Promise 28: least");
    says("The least SHADOW that m SETS of SIZE k (1 .. 6) can have, by CASCADE (of however many things; m 1 .. 1000):");
    SetHouse x = new SetHouse(0);
    due("least(1, 1)", x.least(1, 1), 1);
    due("least(1000, 1): the empty SET alone", x.least(1000, 1), 1);
    due("least(1, 6)", x.least(1, 6), 6);
    due("least(7, 6): all of seven things", x.least(7, 6), 21);
    due("least(1000, 6) of three things", x.least(1000, 6), 792 + 70 + 20 + 6 + 2);
    for (int n = 3; n <= 6; n++) {
      due("least(1000, 6) of " + n + " things", new SetHouse(n - 3).least(1000, 6), 890);
    }
    // it is what the first m SETS of a LAYER have
    for (int k = 1; k <= 6; k++) {
      for (int m = 1; m <= choose(6, k); m++) {
        SetHouse six = new SetHouse(3);
        six.first(k, m, 0);
        due("least(" + m + ", " + k + ")", six.least(m, k), six.shadow(0, 0));
      }
    }

    says("the sum of C(a, k - 1), C(b, k - 2), ...");
    due("least(11, 3): C(5, 2) + C(2, 1)", x.least(11, 3), 10 + 2);
    due("least(10, 3): C(5, 2)", x.least(10, 3), 10);
    due("least(9, 3): C(4, 2) + C(3, 1) + C(2, 0)", x.least(9, 3), 6 + 3 + 1);
    due("least(6, 6): C(6, 5) + C(5, 4) + .. + C(1, 0)", x.least(6, 6), 6 + 5 + 4 + 3 + 2 + 1);
    due("least(1000, 2): C(45, 1) + C(10, 0)", x.least(1000, 2), 45 + 1);
    due("least(990, 2): C(45, 1)", x.least(990, 2), 45);

    says("-1.");
    for (int n = 3; n <= 6; n++) {
      Furnished.inOrder(n, "least", (y, a) -> y.least(a[0], a[1]), Furnished.range(1, 1000), Furnished.range(1, 6));
    }
  }

  private static void chain() {
    section("Promise 29: chain");
    says("The number of the CHAIN of a SET (which 0), the first SET of that (1), how many SETS it has (2).");
    for (int n = 3; n <= 6; n++) {
      int last = (1 << n) - 1;
      SetHouse x = new SetHouse(n - 3);
      for (int s : new int[] {0, 1, last}) {
        due("chain(" + s + ", 0)", x.chain(s, 0), 0);
        due("chain(" + s + ", 1)", x.chain(s, 1), 0);
        due("chain(" + s + ", 2)", x.chain(s, 2), n + 1);
      }
      // the last thing is matched with the one before it; the others are left
      due("chain(2^(n - 1), 1)", x.chain(1 << n - 1, 1), 1 << n - 1);
      due("chain(2^(n - 1), 2)", x.chain(1 << n - 1, 2), n - 1);
      int widest = 0;
      for (int s = 0; s <= last; s++) widest = Math.max(widest, x.chain(s, 0));
      due("the greatest number of a CHAIN", widest, choose(n, n / 2) - 1);
    }
    int[] number = {0, 0, 1, 0, 2, 2, 1, 0};
    int[] start = {0, 0, 2, 0, 4, 4, 2, 0};
    int[] length = {4, 4, 2, 4, 2, 2, 2, 4};
    SetHouse x = new SetHouse(0);
    for (int s = 0; s < 8; s++) {
      due("chain(" + s + ", 0) of three things", x.chain(s, 0), number[s]);
      due("chain(" + s + ", 1) of three things", x.chain(s, 1), start[s]);
      due("chain(" + s + ", 2) of three things", x.chain(s, 2), length[s]);
    }

    says("-1.");
    for (int n = 3; n <= 6; n++) {
      Furnished.inOrder(n, "chain", (y, a) -> y.chain(a[0], a[1]),
          Furnished.range(0, (1 << n) - 1), Furnished.range(0, 2));
    }
  }

  private static void ring() {
    section("Promise 30: ring");
    says("How many STRETCHES of k things of a RING are SETS of a FAMILY.");
    for (int n = 3; n <= 6; n++) {
      SetHouse x = new SetHouse(n - 3);
      for (int k = 1; k < n; k++) {
        x.make(0, 0, 0);
        due("ring(0, as it is, " + k + ") of none", x.ring(0, asItIs(n), k), 0);
        x.first(k, choose(n, k), 0);
        due("ring(0, as it is, " + k + ") of a LAYER", x.ring(0, asItIs(n), k), n);
        due("ring(0, backwards, " + k + ") of a LAYER", x.ring(0, backwards(n), k), n);
        int other = k == 1 ? 2 : 1;
        due("ring(0, as it is, another k) of a LAYER", x.ring(0, asItIs(n), other), 0);
        // the first k, and the last one with the first k - 1
        put(x, 0, 0, 0, (1 << k) - 1, (1 << k - 1) - 1 + (1 << n - 1));
        due("ring(0, as it is, " + k + ") of two", x.ring(0, asItIs(n), k), 2);
      }
    }

    says("-1 (no RING), -11, -12.");
    for (int n = 3; n <= 6; n++) {
      Furnished.Values ring = Furnished.these(new int[] {asItIs(n), backwards(n)}, noOrders(n));
      Furnished.inOrder(n, "ring", (x, a) -> x.ring(a[0], a[1], a[2]),
          Furnished.family(), ring, Furnished.range(1, n - 1));
    }
  }

  private static long power(int base, int exponent) {
    return exponent == 0 ? 1 : base * power(base, exponent - 1);
  }

  private static void weight() {
    section("Promise 31: weight");
    says("The sum over its SETS of a^SIZE (b - a)^(n - SIZE), a 0 .. b, b 1 .. 9:");
    for (int n = 3; n <= 6; n++) {
      SetHouse ends = free(n, 0, (1 << n) - 1);
      SetHouse one = free(n, 3);
      for (int b = 1; b <= 9; b++) {
        for (int a = 0; a <= b; a++) {
          String at = ", " + a + ", " + b + ")";
          due("weight(0" + at + " of two", ends.weight(0, a, b), power(a, n) + power(b - a, n));
          due("weight(0" + at + " of one", one.weight(0, a, b), power(a, 2) * power(b - a, n - 2));
        }
        due("weight(0, -1, " + b + ")", one.weight(0, -1, b), -1);
        due("weight(0, b + 1, " + b + ")", one.weight(0, b + 1, b), -1);
      }
      due("weight(0, 0, 0)", one.weight(0, 0, 0), -1);
      due("weight(0, 0, 10)", one.weight(0, 0, 10), -1);
      due("weight(0, 0, 9) of the empty SET: 0^0 is 1", free(n, 0).weight(0, 0, 9), power(9, n));
      due("weight(0, 9, 9) of the whole SET", free(n, (1 << n) - 1).weight(0, 9, 9), power(9, n));
      due("weight(0, 0, 9) of the whole SET", free(n, (1 << n) - 1).weight(0, 0, 9), 0);
    }

    says("b^n times its WEIGHT, each thing being there by a / b.");
    for (int n = 3; n <= 6; n++) {
      SetHouse x = full(n);
      for (int b = 1; b <= 9; b++) {
        for (int a = 0; a <= b; a++) due("weight(0, " + a + ", " + b + ") of all", x.weight(0, a, b), power(b, n));
      }
      due("weight(0, 4, 9) of none", free(n).weight(0, 4, 9), 0);
    }

    says("-1, -11, -12.");
    for (int n = 3; n <= 6; n++) {
      Furnished.inOrder(n, "weight", (x, a) -> x.weight(a[0], a[1], a[2]),
          Furnished.family(), Furnished.these(new int[] {0, 1}, -1, 10, MIN, MAX), Furnished.range(1, 9));
      Furnished.inOrder(n, "weight", (x, a) -> x.weight(a[0], a[1], 4), Furnished.family(), Furnished.range(0, 4));
      Furnished.inOrder(n, "weight", (x, a) -> x.weight(a[0], a[1], 9), Furnished.family(), Furnished.range(0, 9));
    }
  }

  private static void matters() {
    section("Promise 32: matters");
    says("How many SETS without a thing there are of which just one of it, and it with the thing, is in the FAMILY.");
    for (int n = 3; n <= 6; n++) {
      for (int thing = 0; thing < n; thing++) {
        String at = "matters(0, " + thing + ") of ";
        due(at + "none", free(n).matters(0, thing), 0);
        due(at + "all", full(n).matters(0, thing), 0);
        due(at + "the empty SET", free(n, 0).matters(0, thing), 1);
        due(at + "the whole SET", free(n, (1 << n) - 1).matters(0, thing), 1);
        due(at + "both", free(n, 0, (1 << n) - 1).matters(0, thing), 2);
        due(at + "a SET and it with the thing", free(n, 0, 1 << thing).matters(0, thing), 0);
        SetHouse x = free(n);
        for (int s = 0; s < 1 << n; s++) if ((s >> thing & 1) == 1) fill(x, 0, s);
        due(at + "all that have it", x.matters(0, thing), 1 << n - 1);
        due(at + "all that have it, another thing", x.matters(0, (thing + 1) % n), 0);
      }
    }

    says("-1, -11, -12.");
    for (int n = 3; n <= 6; n++) {
      Furnished.inOrder(n, "matters", (x, a) -> x.matters(a[0], a[1]), Furnished.family(), Furnished.range(0, n - 1));
    }
  }

  private static void product() {
    section("Promise 33: product");
    says("How many SETS are in both, times 2^n, less how many are in the one times how many in the other.");
    for (int n = 3; n <= 6; n++) {
      SetHouse x = full(n);
      int many = 1 << n;
      x.make(1, 0, 0);
      put(x, 2, 0, 0, 0);
      put(x, 3, 0, 0, 1, 2);
      due("product(all, all)", x.product(0, 0), 0);
      due("product(all, none)", x.product(0, 1), 0);
      due("product(none, none)", x.product(1, 1), 0);
      due("product(one, all)", x.product(2, 0), 0);
      due("product(one, itself)", x.product(2, 2), many - 1);
      due("product(one, others): below 0", x.product(2, 3), -2);
      due("product(others, one): below 0", x.product(3, 2), -2);
      due("product(two, itself)", x.product(3, 3), 2 * many - 4);
      // the least that can be: one half and the other
      put(x, 4, 0, 0);
      put(x, 5, 0, 0);
      for (int s = 0; s < many; s++) fill(x, s < many / 2 ? 4 : 5, s);
      due("product(one half, the other)", x.product(4, 5), -many / 2 * (many / 2));
      due("product(one half, itself)", x.product(4, 4), many / 2 * (many / 2));
    }

    says("-1, -11, -12.");
    for (int n = 3; n <= 6; n++) {
      Furnished.inOrder(n, "product", (x, a) -> x.product(a[0], a[1]), Furnished.family(), Furnished.family());
    }
  }
}
