/** "Terms" from SHADOW on: the words that the calls use, and the REFUSALS. */
final class WordsSentences extends Sentences {
  static void run() {
    section("Terms");
    shadowAndUp();
    push();
    pushed();
    matchedThings();
    chains();
    rings();
    ranks();
    cascades();
    flowersAndCovers();
    shattered();
    turns();
    refusalsInOrder();
    ofTwoPlaces();
    refusedChangesNothing();
    interfaceSays();
  }

  private static int[] singles(int n) {
    return layer(n, 1);
  }

  private static void shadowAndUp() {
    says("SHADOW of a FAMILY: all SETS that are one of its SETS without one thing;");
    for (int n = 3; n <= 6; n++) {
      int last = (1 << n) - 1;
      SetHouse x = free(n);
      due("shadow of none", x.shadow(0, 1), 0);
      fill(x, 0, 0);
      due("shadow of the empty SET", x.shadow(0, 1), 0);
      sets(x, 1);
      put(x, 0, 0, 0, last);
      due("shadow of the whole SET", x.shadow(0, 1), n);
      sets(x, 1, layer(n, n - 1));
      put(x, 0, 0, 0, singles(n));
      due("shadow of SETS of one thing", x.shadow(0, 1), 1);
      sets(x, 1, 0);
      due("shadow of all SETS: the whole one is not there", full(n).shadow(0, 1), last);
      x = full(n);
      x.shadow(0, 0);
      due("has(0, 2^n - 1)", x.has(0, last), 0);
    }

    says("UP: with one thing more.");
    for (int n = 3; n <= 6; n++) {
      int last = (1 << n) - 1;
      SetHouse x = free(n);
      due("up of none", x.up(0, 1), 0);
      fill(x, 0, last);
      due("up of the whole SET", x.up(0, 1), 0);
      sets(x, 1);
      put(x, 0, 0, 0, 0);
      due("up of the empty SET", x.up(0, 1), n);
      sets(x, 1, singles(n));
      put(x, 0, 0, 0, layer(n, n - 1));
      due("up of SETS that lack one thing", x.up(0, 1), 1);
      sets(x, 1, last);
      x = full(n);
      due("up of all SETS: the empty one is not there", x.up(0, 0), last);
      due("has(0, 0)", x.has(0, 0), 0);
    }
  }

  private static void push() {
    says("To PUSH i to j (i not j) changes a FAMILY:");
    for (int n = 3; n <= 6; n++) {
      for (int i = 0; i < n; i++) {
        SetHouse x = free(n, 1 << i);
        due("push(0, " + i + ", " + i + ")", x.push(0, i, i), -1);
        due("push to another one", x.push(0, i, i == 0 ? n - 1 : 0), 1);
      }
    }
    Furnished.refused(4, "push(3, 1, 1)", (x, none) -> x.push(3, 1, 1), -1);

    says("each SET that has i and not j has j in the place of i,");
    SetHouse x = free(4, 0, 4, 6, 9, 10, 12);
    // 2 to 1: 4 becomes 2, 12 would become 10, which is there; 6 has both, 9 and 0 neither, 10 has 1 alone
    due("push(0, 2, 1)", x.push(0, 2, 1), 1);
    sets(x, 0, 0, 2, 6, 9, 10, 12);
    for (int n = 3; n <= 6; n++) {
      x = full(n);
      due("push(0, n - 1, 0) of all SETS", x.push(0, n - 1, 0), 0);
      due("push(0, 1, 0) of none", free(n).push(0, 1, 0), 0);
      x = free(n);
      for (int s = 0; s < 1 << n; s++) if ((s & 1) == 0 && (s >> n - 1 & 1) == 1) fill(x, 0, s);
      due("push(0, n - 1, 0) of all that it changes", x.push(0, n - 1, 0), 1 << n - 2);
      for (int s = 0; s < 1 << n; s++) {
        due("has(0, " + s + ")", x.has(0, s), (s & 1) == 1 && (s >> n - 1 & 1) == 0 ? 1 : 0);
      }
    }

    says("if that SET wasn't there ahead of it all.");
    x = free(3, 1, 2);
    due("push(0, 1, 0) where 1 is there", x.push(0, 1, 0), 0);
    sets(x, 0, 1, 2);
    due("push(0, 0, 1) where 2 is there", x.push(0, 0, 1), 0);
    sets(x, 0, 1, 2);
    due("push(0, 1, 2): 2 becomes 4", x.push(0, 1, 2), 1);
    sets(x, 0, 1, 4);
  }

  private static void pushed() {
    says("PUSHED: for i = 1 .. n - 1, for j = 0 .. i - 1: PUSH i to j;");
    for (int n = 3; n <= 6; n++) {
      SetHouse x = free(n, 1);
      due("pushed(0) of {0}: none is PUSHED upwards", x.pushed(0), 0);
      x = free(n, 2);
      due("pushed(0): the first, 1 to 0", x.pushed(0), 1);
      sets(x, 0, 1);
      // the others are there already: only the last PUSH, n - 1 to n - 2, has where to go
      x = free(n, 1 << n - 1);
      for (int i = 0; i < n - 2; i++) fill(x, 0, 1 << i);
      due("pushed(0): the last, n - 1 to n - 2", x.pushed(0), 1);
      for (int i = 0; i < n; i++) due("has(0, 2^" + i + ")", x.has(0, 1 << i), i < n - 1 ? 1 : 0);
    }
    // by i first, then by j: 1 to 0 makes 5 of 6; 2 to 0 finds nothing, 2 to 1 makes 3 of 5
    SetHouse x = free(3, 6);
    due("pushed(0) of {1, 2}", x.pushed(0), 2);
    sets(x, 0, 3);
    // 1 to 0: 9, 12; 2 to 0: no, 9 is there; 2 to 1: 9, 10; 3 to 0: 3, 9; 3 to 1: no, 3 is there; 3 to 2: 3, 5
    x = free(4, 12, 10);
    due("pushed(0) of 10 and 12", x.pushed(0), 4);
    sets(x, 0, 3, 5);

    says("again and again till such a round changes nothing.");
    for (int n = 3; n <= 6; n++) {
      due("pushed(0) of none", free(n).pushed(0), 0);
      due("pushed(0) of all", full(n).pushed(0), 0);
      x = free(n);
      // SETS that lie about: 37 is odd, so that none comes twice unless all are there
      for (int s = 0; s < 12; s++) x.add(0, (37 * s + 11) % (1 << n));
      x.pushed(0);
      due("pushed(0) again", x.pushed(0), 0);
      for (int i = 1; i < n; i++) for (int j = 0; j < i; j++) due("push after pushed", x.push(0, i, j), 0);
    }
  }

  private static void matchedThings() {
    says("CHAINS: things are read from 0 on: one that is in a SET is ), one that isn't is (;");
    for (int n = 3; n <= 6; n++) {
      SetHouse x = new SetHouse(n - 3);
      due("chain(2, 1): thing 1 has a ( before it", x.chain(2, 1), 2);
      due("chain(1, 1): thing 0 has none", x.chain(1, 1), 0);
      due("chain(2^(n - 1), 1): the last thing is", x.chain(1 << n - 1, 1), 1 << n - 1);
    }

    says("each ) is matched with the nearest ( before it that isn't matched yet, if there is one.");
    SetHouse x = new SetHouse(3);
    // ( ( ) ) ) (: 2 with 1, 3 with 0; for 4 there is none
    due("chain(28, 1)", x.chain(28, 1), 12);
    // ) ( ) ) ( ): 2 with 1, 5 with 4; for 0 and 3 there is none
    due("chain(45, 1)", x.chain(45, 1), 36);
    // ( ( ( ) ) ): 3 with 2, 4 with 1, 5 with 0
    due("chain(56, 1)", x.chain(56, 1), 56);
    due("chain(63, 1): none is matched", x.chain(63, 1), 0);
    due("chain(0, 1): none is matched", x.chain(0, 1), 0);
    // ( ( ) (: 2 with 1, the nearest: so 0 and 3 are left, and with them 12 is no SET of the CHAIN, 5 is
    x = new SetHouse(1);
    due("chain(4, 0) and of 5", x.chain(5, 0), x.chain(4, 0));
    due("chain(12, 1)", x.chain(12, 1), 12);
    due("chain(13, 1)", x.chain(13, 1), 4);
  }

  private static void chains() {
    says("SETS with the same matched pairs are in one CHAIN: of the things that are not matched its SETS have the first"
        + " 0, 1, 2, .. (and of the matched ones those that were )).");
    for (int n = 3; n <= 6; n++) {
      SetHouse x = new SetHouse(n - 3);
      for (int k = 0; k <= n; k++) {
        due("chain(first k things, 0)", x.chain((1 << k) - 1, 0), 0);
        due("chain(first k things, 2)", x.chain((1 << k) - 1, 2), n + 1);
      }
      // of thing 1 matched with 0, the others come in their order: n - 1 SETS
      int set = 2;
      for (int i = 2; i <= n; i++) {
        due("chain(" + set + ", 1)", x.chain(set, 1), 2);
        due("chain(" + set + ", 2)", x.chain(set, 2), n - 1);
        set += 1 << i;
      }
    }
    // where all are matched the CHAIN has one SET
    due("chain(10, 2) of four", new SetHouse(1).chain(10, 2), 1);
    due("chain(12, 2) of four", new SetHouse(1).chain(12, 2), 1);
    due("chain(42, 2) of six", new SetHouse(3).chain(42, 2), 1);
    due("chain(28, 2) of five: thing 4 is left", new SetHouse(2).chain(28, 2), 2);

    says("CHAINS are numbered (from 0) by their least SETS.");
    for (int n = 3; n <= 6; n++) {
      SetHouse x = new SetHouse(n - 3);
      int next = 0;
      for (int s = 0; s < 1 << n; s++) {
        if (x.chain(s, 1) == s) due("chain(" + s + ", 0), a first SET", x.chain(s, 0), next++);
      }
      due("how many CHAINS there are", next, choose(n, n / 2));
      due("chain(0, 0)", x.chain(0, 0), 0);
      due("chain(2, 0)", x.chain(2, 0), 1);
    }
  }

  private static void rings() {
    says("RINGS: an order of all things round a ring, told by n digits to the base 8, the first thing the lowest digit:");
    for (int n = 3; n <= 6; n++) {
      SetHouse x = free(n, 3);
      due("ring(0, as it is, 2): 0 beside 1", x.ring(0, asItIs(n), 2), 1);
      due("ring(0, backwards, 2)", x.ring(0, backwards(n), 2), 1);
      for (int ring : noOrders(n)) due("ring(0, " + ring + ", 2)", x.ring(0, ring, 2), -1);
    }
    // 0 2 1 3: beside one another stand 0 2, 2 1, 1 3, 3 0
    SetHouse x = free(4, 3, 12);
    due("ring(0, 0 2 1 3, 2)", x.ring(0, 03120, 2), 0);
    fill(x, 0, 5, 6, 10, 9);
    due("ring(0, 0 2 1 3, 2)", x.ring(0, 03120, 2), 4);

    says("STRETCHES of k things (1 .. n - 1) that stand beside one another, n of them.");
    for (int n = 3; n <= 6; n++) {
      x = full(n);
      for (int k = 1; k < n; k++) due("ring(0, as it is, " + k + ") of all", x.ring(0, asItIs(n), k), n);
      for (int k : new int[] {0, n, -1, n + 1, MIN, MAX}) due("ring(0, .., " + k + ")", x.ring(0, asItIs(n), k), -1);
      // the last stands beside the first
      x = free(n, 1 + (1 << n - 1));
      due("ring(0, as it is, 2) of the last and the first", x.ring(0, asItIs(n), 2), 1);
      x = free(n, (1 << n) - 2);
      due("ring(0, as it is, n - 1) without the first", x.ring(0, asItIs(n), n - 1), 1);
      x = free(n, (1 << n - 1) - 1);
      due("ring(0, as it is, n - 1) without the last", x.ring(0, asItIs(n), n - 1), 1);
      x = free(n, 1 << n - 1);
      due("ring(0, as it is, 1) of the last", x.ring(0, asItIs(n), 1), 1);
      if (n > 3) due("ring(0, as it is, 2) of 0 and 2", free(n, 5).ring(0, asItIs(n), 2), 0);
    }
  }

  private static void ranks() {
    says("RANK of a SET: how many SETS of its LAYER are less as numbers.");
    for (int n = 3; n <= 6; n++) {
      SetHouse x = new SetHouse(n - 3);
      for (int k = 0; k <= n; k++) {
        int[] sets = layer(n, k);
        for (int i = 0; i < sets.length; i++) due("rank(" + sets[i] + ")", x.rank(sets[i]), i);
      }
    }
  }

  private static void cascades() {
    says("CASCADE of a number m from k on: the greatest a with C(a, k) at most m, then of what is left with k - 1,");
    for (int k = 1; k <= 6; k++) {
      SetHouse x = new SetHouse(0);
      for (int a = k; choose(a, k) <= 1000 && a < 30; a++) {
        due("cascade(C(" + a + ", " + k + "), " + k + ", 0)", x.cascade(choose(a, k), k, 0), a);
        due("cascade(C(a, k), k, 1): nothing is left", x.cascade(choose(a, k), k, 1), -2);
        int before = choose(a, k) - 1;
        if (before > 0) due("cascade(" + before + ", " + k + ", 0)", x.cascade(before, k, 0), k == 1 ? before : a - 1);
        if (k > 1 && choose(a, k) < 1000) {
          // C(a + 1, k) is at least 2 more, since k is above 1
          due("cascade(C(a, k) + 1, k, 0)", x.cascade(choose(a, k) + 1, k, 0), a);
        }
      }
      due("cascade(1, " + k + ", 0)", x.cascade(1, k, 0), k);
      due("cascade(1, " + k + ", 1)", x.cascade(1, k, 1), -2);
    }
    due("cascade(1000, 1, 0)", new SetHouse(0).cascade(1000, 1, 0), 1000);

    says("and so on, while something is left: m is the sum of C(a, k), C(b, k - 1), ..");
    for (int k = 1; k <= 6; k++) {
      for (int m = 1; m <= 1000; m++) cascadeSum(m, k);
    }
  }

  private static void cascadeSum(int m, int k) {
    SetHouse x = new SetHouse(0);
    long sum = 0;
    int i = 0;
    int above = 2000;
    for (int a = x.cascade(m, k, 0); a != -2 && i < k; a = x.cascade(m, k, ++i)) {
      due("cascade(" + m + ", " + k + ", " + i + ") is less than the one before", a < above && a >= k - i ? 1 : 0, 1);
      sum += ways(a, k - i);
      above = a;
    }
    due("the sum of cascade(" + m + ", " + k + ", ..)", sum, m);
    due("cascade(" + m + ", " + k + ", " + i + ")", x.cascade(m, k, i), -2);
  }

  private static long ways(int a, int k) {
    long w = 1;
    for (int i = 1; i <= k; i++) w = w * (a - k + i) / i;
    return w;
  }

  private static void flowersAndCovers() {
    says("A FLOWER of p PETALS: p SETS of a FAMILY (2 to 5), of which any two have just the same in common, its CORE.");
    SetHouse x = free(6, 1, 2, 4, 8, 16, 32);
    for (int p = 2; p <= 5; p++) {
      due("flower(0, " + p + ")", x.flower(0, p), 0);
      due("petal(p - 1)", x.petal(p - 1), 1 << p - 1);
      due("petal(p)", x.petal(p), -2);
    }
    for (int p : new int[] {1, 6, 0, -1, MIN, MAX}) due("flower(0, " + p + ")", x.flower(0, p), -1);
    due("flower(0, 2) of none", free(6).flower(0, 2), -2);
    due("flower(0, 2) of one", free(6, 5).flower(0, 2), -2);
    due("flower(0, 2) of two that share all of one", free(6, 1, 63).flower(0, 2), 1);
    due("flower(0, 2) of the empty and the whole", free(6, 0, 63).flower(0, 2), 0);
    due("flower(0, 3): any two share something else", free(3, 3, 5, 6).flower(0, 3), -2);
    due("flower(0, 3): a petal that is the CORE", free(3, 1, 3, 5).flower(0, 3), 1);
    due("flower(0, 5) of four SETS", free(6, 1, 2, 4, 8).flower(0, 5), -2);
    due("flower(0, 4): the empty SET and n others", free(3, 0, 1, 2, 4).flower(0, 4), 0);
    due("flower(0, 5) of three things: there is none", full(3).flower(0, 5), -2);
    due("flower(0, 5) of four things: with the empty SET", full(4).flower(0, 5), 0);

    says("A COVER: a SET of things that has a thing in common with each SET of a FAMILY.");
    for (int n = 3; n <= 6; n++) {
      due("cover(0) of none", free(n).cover(0), 0);
      due("cover(0) of the empty SET", free(n, 0).cover(0), -2);
      due("cover(0) of all", full(n).cover(0), -2);
      due("cover(0) of the whole SET", free(n, (1 << n) - 1).cover(0), 1);
      due("cover(0) of each thing", free(n, layer(n, 1)).cover(0), (1 << n) - 1);
      due("cover(0) of the last thing", free(n, 1 << n - 1).cover(0), 1 << n - 1);
    }
  }

  private static void shattered() {
    says("SHATTERED is a SET s, if each SET within s is what s and some SET of the FAMILY have in common.");
    for (int n = 3; n <= 6; n++) {
      int last = (1 << n) - 1;
      due("shattered(0, 0) of none", free(n).shattered(0, 0), 0);
      due("shattered(0, 0) of the empty SET", free(n, 0).shattered(0, 0), 1);
      due("shattered(0, 0) of the whole SET", free(n, last).shattered(0, 0), 1);
      SetHouse x = full(n);
      due("shattered(0, 2^n - 1) of all", x.shattered(0, last), 1);
      for (int lacking : new int[] {0, 1, last - 1, last}) {
        due("drop(0, " + lacking + ")", x.drop(0, lacking), last);
        due("shattered(0, 2^n - 1) where one is lacking", x.shattered(0, last), 0);
        due("shattered(0, 2^n - 2) where one is lacking", x.shattered(0, last - 1), 1);
        fill(x, 0, lacking);
      }
      due("shattered(0, 1) of two", free(n, 2, last).shattered(0, 1), 1);
      due("shattered(0, 2) of two that both have 1", free(n, 2, last).shattered(0, 2), 0);
    }
  }

  private static void turns() {
    says("A TURN is an order of things, told by n digits to the base 8, the lowest digit the thing that 0 becomes,"
        + " and so on.");
    for (int n = 3; n <= 6; n++) {
      SetHouse x = free(n, 1, 6);
      due("turned(0, as it is, 1)", x.turned(0, asItIs(n), 1), 2);
      sets(x, 1, 1, 6);
      due("turned(0, backwards, 1)", x.turned(0, backwards(n), 1), 2);
      due("has(1, 2^(n - 1)): 0 became n - 1", x.has(1, 1 << n - 1), 1);
      due("has(1, 2^(n - 2) + 2^(n - 3))", x.has(1, (1 << n - 2) + (1 << n - 3)), 1);
      for (int turn : noOrders(n)) due("turned(0, " + turn + ", 2)", x.turned(0, turn, 2), -1);
      due("holds(2)", x.holds(2), -2);
    }
    // 0 becomes 2, 1 becomes 0, 2 becomes 1: not the other way about
    SetHouse x = free(3, 1, 2);
    due("turned(0, 2 0 1, 1)", x.turned(0, 0102, 1), 2);
    sets(x, 1, 1, 4);
    due("turned(0, 1 2 0, 1)", x.turned(0, 0021, 1), 2);
    sets(x, 1, 2, 4);
  }

  private static void refusalsInOrder() {
    says("REFUSALS, of several the first as they stand here: -1 no such PLACE, SET, thing, KIND, a number out of range;");
    for (int n = 3; n <= 6; n++) {
      for (int i = 0; i < FamilyCalls.NAMES.length; i++) {
        int call = i;
        int things = n;
        for (int place : Furnished.NO_PLACES) {
          Furnished.refused(n, FamilyCalls.NAMES[i] + " at " + place, (x, a) -> FamilyCalls.call(x, call, things, place), -1);
        }
      }
    }
    for (int place : new int[] {10, 6, 0}) {
      Furnished.refused(4, "add(" + place + ", 16)", (x, a) -> x.add(place, 16), -1);
      Furnished.refused(4, "matters(" + place + ", 4)", (x, a) -> x.matters(place, 4), -1);
      Furnished.refused(4, "is(" + place + ", 5, 0)", (x, a) -> x.is(place, 5, 0), -1);
      Furnished.refused(4, "weight(" + place + ", 3, 2)", (x, a) -> x.weight(place, 3, 2), -1);
    }
    Furnished.refused(4, "add(4, 16), no SET and none of the LAYER", (x, a) -> x.add(4, 16), -1);
    Furnished.refused(4, "drop(3, -1), no SET and not there", (x, a) -> x.drop(3, -1), -1);
    Furnished.refused(4, "set(0, -1), none and out of range", (x, a) -> x.set(0, -1), -1);
    Furnished.refused(4, "put(16, -1, 0), no PLACE and none of a ROW", (x, a) -> x.put(16, -1, 0), -1);
    Furnished.refused(4, "row(16, 6, -1), no PLACE and below 0", (x, a) -> x.row(16, 6, -1), -1);
    Furnished.refused(4, "row(0, 9, -1), no sort and below 0", (x, a) -> x.row(0, 9, -1), -1);

    says("-11 a PLACE holds nothing;");
    everyFamilyCall(Furnished.EMPTY, -11);
    Furnished.refused(4, "set(10, 99), of nothing and none such", (x, a) -> x.set(10, 99), -11);
    Furnished.refused(4, "put(10, -1, 0), of nothing and none such", (x, a) -> x.put(10, -1, 0), -11);

    says("-12 it holds something else than is asked for;");
    everyFamilyCall(Furnished.ROWS, -12);
    Furnished.refused(4, "set(6, 99), of a ROW and none such", (x, a) -> x.set(6, 99), -12);
    Furnished.refused(4, "drop(6, 15), of a ROW and none such", (x, a) -> x.drop(6, 15), -12);
    Furnished.refused(4, "put(0, -1, 0), of a FAMILY and none such", (x, a) -> x.put(0, -1, 0), -12);
    Furnished.refused(4, "toss(6), of a ROW and no FAILURE", (x, a) -> x.toss(6), -12);

    says("-2 no such one there;");
    Furnished.refused(4, "drop(0, 4)", (x, a) -> x.drop(0, 4), -2);
    Furnished.refused(4, "drop(3, 4), of DOWN", (x, a) -> x.drop(3, 4), -2);
    Furnished.refused(4, "set(0, 2)", (x, a) -> x.set(0, 2), -2);
    Furnished.refused(4, "flower(0, 3)", (x, a) -> x.flower(0, 3), -2);
    Furnished.refused(4, "cover(15)", (x, a) -> x.cover(15), -2);
    Furnished.refused(4, "same(0, 15)", (x, a) -> x.same(0, 15), -2);
    Furnished.refused(4, "ranked(2, 6)", (x, a) -> x.ranked(2, 6), -2);

    says("-3 the KIND would not stay so;");
    Furnished.refused(4, "add(1, 0)", (x, a) -> x.add(1, 0), -3, 3);
    Furnished.refused(4, "drop(3, 2)", (x, a) -> x.drop(3, 2), -3, 3);

    says("-13 a place that a ROW doesn't have;");
    Furnished.refused(4, "put(6, 4, 1)", (x, a) -> x.put(6, 4, 1), -13);
    Furnished.refused(4, "put(6, -1, 1)", (x, a) -> x.put(6, -1, 1), -13);
    Furnished.refused(4, "put(9, 0, 1), of a ROW without numbers", (x, a) -> x.put(9, 0, 1), -13);
    Furnished.refused(4, "copy(6, 4, 9, 0, 1)", (x, a) -> x.copy(6, 4, 9, 0, 1), -13);

    says("-14 a size below 0;");
    Furnished.refused(4, "row(0, 6, -1)", (x, a) -> x.row(0, 6, -1), -14);
    Furnished.refused(4, "row(10, 8, MIN)", (x, a) -> x.row(10, 8, MIN), -14);

    says("-15 a FAILURE that is none.");
    for (int place : new int[] {0, 1, 3, 15}) {
      Furnished.refused(4, "toss(" + place + ")", (x, a) -> x.toss(place), -15);
    }
  }

  private static void everyFamilyCall(int[] places, int want) {
    for (int n = 3; n <= 6; n++) {
      for (int i = 0; i < FamilyCalls.NAMES.length; i++) {
        for (int place : places) {
          int call = i;
          int things = n;
          Furnished.refused(n, FamilyCalls.NAMES[i] + " at " + place, (x, a) -> FamilyCalls.call(x, call, things, place), want);
        }
      }
    }
  }

  private static void ofTwoPlaces() {
    says("Of two PLACES the one that stands first is looked at first (for -11 and -12).");
    int[][] pairs = {{6, 10, -12}, {10, 6, -11}, {6, 0, -12}, {0, 6, -12}, {10, 0, -11}, {0, 10, -11}, {10, 14, -11}, {7, 8, -12}};
    for (int[] p : pairs) {
      String at = "(" + p[0] + ", " + p[1] + ")";
      for (int how = 0; how <= 5; how++) {
        int mixed = how;
        Furnished.refused(4, "mix" + at, (x, a) -> x.mix(p[0], p[1], mixed, 11), p[2]);
      }
      Furnished.refused(4, "product" + at, (x, a) -> x.product(p[0], p[1]), p[2]);
      Furnished.refused(4, "same" + at, (x, a) -> x.same(p[0], p[1]), p[2]);
    }
    Furnished.refused(4, "take(0, 10)", (x, a) -> x.take(0, 10), -12);
    Furnished.refused(4, "take(10, 6)", (x, a) -> x.take(10, 6), -11);
  }

  private static void refusedChangesNothing() {
    says("A refused call changes nothing but the CLASH.");
    // Furnished.refused() sees to it for each refusal of each call; here, that what it looks at would show a change
    for (int change = 0; change < 12; change++) {
      SetHouse x = Furnished.house(4);
      String before = Furnished.seen(Furnished.house(4));
      changeOne(x, change);
      due("change " + change + " is seen", Furnished.seen(x).equals(before) ? 0 : 1, 1);
    }
    SetHouse x = Furnished.house(4);
    due("clash()", x.clash(), Furnished.CLASH);
    due("add(4, 7)", x.add(4, 7), -3);
    due("clash() is told", x.clash(), 7);
    due("add(4, 16)", x.add(4, 16), -1);
    due("clash() stays", x.clash(), 7);
  }

  private static void changeOne(SetHouse x, int change) {
    switch (change) {
      case 0: x.add(0, 7); break;
      case 1: x.drop(1, 3); break;
      case 2: x.make(14, 0, 0); break;
      case 3: x.row(9, 6, 1); break;
      case 4: x.put(8, 1, 4); break;
      case 5: x.flower(4, 2); x.flower(15, 2); break;
      case 6: x.make(10, 0, 0); x.cross(5, 0, 1); x.add(5, 7); break;
      case 7: x.push(3, 1, 0); break;
      case 8: x.empty(6); break;
      case 9: x.row(7, 8, 3); break;
      case 10: x.make(2, 2, 2); break;
      default: x.pushed(5); break;
    }
  }

  private static void interfaceSays() {
    says("Ahead of the calls `shadow`, `up`, `closed`, `ends`, `mix`, `rest`, `trace`, `turned`, `push`, `pushed`, `first`"
        + " the interface says: ---- made out of others; they come to a PLACE: how many SETS there are.");
    for (int n = 3; n <= 6; n++) {
      int all = 1 << n;
      SetHouse x = full(n);
      due("closed(0, false, 1)", x.closed(0, false, 1), all);
      due("closed(0, true, 1)", x.closed(0, true, 1), all);
      due("mix(0, 0, 1, 1)", x.mix(0, 0, 1, 1), all);
      due("rest(0, true, 1)", x.rest(0, true, 1), all);
      due("rest(0, false, 2)", x.rest(0, false, 2), 0);
      due("trace(0, 2^n - 1, 1)", x.trace(0, all - 1, 1), all);
      due("turned(0, backwards, 1)", x.turned(0, backwards(n), 1), all);
      due("shadow(0, 1)", x.shadow(0, 1), all - 1);
      due("up(0, 1)", x.up(0, 1), all - 1);
      due("ends(0, true, 1)", x.ends(0, true, 1), 1);
      due("first(1, n, 1)", x.first(1, n, 1), n);
      // of none there is none
      due("closed(2, false, 1)", x.closed(2, false, 1), 0);
      due("closed(2, true, 1)", x.closed(2, true, 1), 0);
      due("mix(2, 2, 5, 1)", x.mix(2, 2, 5, 1), 0);
      due("rest(2, true, 1)", x.rest(2, true, 1), 0);
      due("trace(2, 0, 1)", x.trace(2, 0, 1), 0);
      due("turned(2, backwards, 1)", x.turned(2, backwards(n), 1), 0);
      due("shadow(2, 1)", x.shadow(2, 1), 0);
      due("up(2, 1)", x.up(2, 1), 0);
      due("ends(2, true, 1)", x.ends(2, true, 1), 0);
      due("first(1, 0, 1)", x.first(1, 0, 1), 0);
    }
  }
}
