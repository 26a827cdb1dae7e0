import java.util.ArrayList;
import java.util.List;

/** "Terms" up to what is made out of others: numbers of SETS, PLACES, KINDS, what may come and go. */
final class TermsSentences extends Sentences {
  static void run() {
    section("What it is");
    lastCall();
    section("Terms");
    things();
    setNumbers();
    heapsAndLayers();
    places();
    freeAndApart();
    meet();
    downAndLayer();
    cross();
    comingAndGoing();
    clashTold();
    madeOutOfOthers();
    ofAnyKind();
  }

  private static void lastCall() {
    says("An object is used for at most 512 calls after it has been made;");
    SetHouse x = new SetHouse(3);
    x.make(0, 2, 1);
    x.greatest(3, 1, 1);
    for (int call = 3; call <= 511; call++) {
      switch (call % 6) {
        case 0: due("toss(0), call " + call, x.toss(0), 1); break;
        case 1: due("element(0, 0), call " + call, element(x, 0, 0), BAD_STATE); break;
        case 2: due("turns(0), call " + call, x.turns(0), 720); break;
        case 3: due("greatest(3, 1, 1), call " + call, x.greatest(3, 1, 1), 10); break;
        case 4: due("same(1, 1), call " + call, x.same(1, 1), asItIs(6)); break;
        default: due("flower(1, 5), call " + call, x.flower(1, 5), -2); break;
      }
    }
    due("turns(1), call 512", x.turns(1), 120);
  }

  private static void things() {
    says("THINGS are 0 .. n - 1 (n 3 .. 6).");
    for (int n = 3; n <= 6; n++) {
      SetHouse x = free(n, 1 << n - 1);
      due("matters(0, 0)", x.matters(0, 0), 1);
      due("matters(0, n - 1)", x.matters(0, n - 1), 1);
      due("matters(0, -1)", x.matters(0, -1), -1);
      due("matters(0, n)", x.matters(0, n), -1);
      due("push(0, n - 1, 0)", x.push(0, n - 1, 0), 1);
      due("push(0, 0, n - 1)", x.push(0, 0, n - 1), 1);
      due("push(0, n, 0)", x.push(0, n, 0), -1);
      due("push(0, 0, n)", x.push(0, 0, n), -1);
      due("push(0, -1, 0)", x.push(0, -1, 0), -1);
      due("push(0, 0, -1)", x.push(0, 0, -1), -1);
      sets(x, 0, 1 << n - 1);
    }
  }

  private static void setNumbers() {
    says("A SET is a number 0 .. 2^n - 1:");
    for (int n = 3; n <= 6; n++) {
      int last = (1 << n) - 1;
      SetHouse x = free(n, 0, last);
      sets(x, 0, 0, last);
      due("has(0, 0)", x.has(0, 0), 1);
      due("has(0, 2^n - 1)", x.has(0, last), 1);
      due("rank(0)", x.rank(0), 0);
      due("rank(2^n - 1)", x.rank(last), 0);
      due("chain(0, 1)", x.chain(0, 1), 0);
      due("chain(2^n - 1, 1)", x.chain(last, 1), 0);
      due("shattered(0, 0)", x.shattered(0, 0), 1);
      due("shattered(0, 2^n - 1)", x.shattered(0, last), 0);
      due("trace(0, 0, 1)", x.trace(0, 0, 1), 1);
      due("trace(0, 2^n - 1, 1)", x.trace(0, last, 1), 2);
      for (int s : new int[] {-1, last + 1, -2, MIN, MAX}) noSet(x, s);
      due("drop(0, 2^n - 1)", x.drop(0, last), 1);
      due("drop(0, 0)", x.drop(0, 0), 0);
    }

    says("bit i is 1 if thing i is in it; its SIZE is how many are.");
    for (int n = 3; n <= 6; n++) {
      SetHouse x = new SetHouse(n - 3);
      for (int i = 0; i < n; i++) {
        for (int j = 0; j < n; j++) {
          if (i == j) continue;
          put(x, 0, 0, 0, 1 << i);
          due("push(0, " + i + ", " + j + ")", x.push(0, i, j), 1);
          sets(x, 0, 1 << j);
        }
      }
      x = full(n);
      for (int k = 0; k <= 6; k++) due("count(0, 3 + " + k + ") of all", x.count(0, 3 + k), choose(n, k));
    }
  }

  private static void noSet(SetHouse x, int s) {
    due("add(0, " + s + ")", x.add(0, s), -1);
    due("drop(0, " + s + ")", x.drop(0, s), -1);
    due("has(0, " + s + ")", x.has(0, s), -1);
    due("rank(" + s + ")", x.rank(s), -1);
    due("chain(" + s + ", 1)", x.chain(s, 1), -1);
    due("trace(0, " + s + ", 1)", x.trace(0, s, 1), -1);
    if (s != -1) due("shattered(0, " + s + ")", x.shattered(0, s), -1);
  }

  private static void heapsAndLayers() {
    says("A FAMILY is a heap of SETS, none twice.");
    for (int n = 3; n <= 6; n++) {
      SetHouse x = full(n);
      due("add(0, 0) where it is", x.add(0, 0), 1 << n);
      due("add(0, 2^n - 1) where it is", x.add(0, (1 << n) - 1), 1 << n);
      due("drop(0, 0)", x.drop(0, 0), (1 << n) - 1);
      due("drop(0, 0), which was there once", x.drop(0, 0), -2);
      put(x, 1, 0, 0, 5, 6, 5);
      sets(x, 1, 5, 6);
      due("shadow(1, 2): 4 is below both", x.shadow(1, 2), 3);
      due("mix(1, 1, 1, 2)", x.mix(1, 1, 1, 2), 2);
      due("trace(1, 4, 2)", x.trace(1, 4, 2), 1);
      rowOf(x, 3, 6, 5, 5, 5);
      due("take(3, 1)", x.take(3, 1), 3);
      sets(x, 1, 5, 6);
    }

    says("LAYER k are all SETS of SIZE k.");
    for (int n = 3; n <= 6; n++) {
      for (int k = 0; k <= n; k++) {
        SetHouse x = new SetHouse(n - 3);
        due("first(" + k + ", all of them, 0)", x.first(k, choose(n, k), 0), choose(n, k));
        family(x, 0, 4, k, layer(n, k));
      }
      SetHouse x = new SetHouse(n - 3);
      due("first(-1, 0, 0)", x.first(-1, 0, 0), -1);
      due("first(n + 1, 0, 0)", x.first(n + 1, 0, 0), -1);
      due("ranked(-1, 0)", x.ranked(-1, 0), -1);
      due("ranked(n + 1, 0)", x.ranked(n + 1, 0), -1);
    }

    says("Numbers of SETS are their order, where nothing else is told.");
    for (int n = 3; n <= 6; n++) {
      SetHouse x = free(n, 2, (1 << n) - 1, 0, 1);
      sets(x, 0, 0, 1, 2, (1 << n) - 1);
      x = full(n);
      for (int s = 0; s < 1 << n; s++) due("set(0, " + s + ") of all", x.set(0, s), s);
      due("set(0, 2^n) of all", x.set(0, 1 << n), -2);
    }
  }

  private static void places() {
    says("THE SHELF has PLACES 0 .. 15;");
    List<Long> middle = answersAt(7, 8);
    due("all calls at 0 and 15 answer as at 7 and 8", answersAt(0, 15).equals(middle) ? 1 : 0, 1);
    due("all calls at 15 and 0 answer as at 7 and 8", answersAt(15, 0).equals(middle) ? 1 : 0, 1);
    for (long answer : middle) due("no call at 7 and 8 is refused by -1", answer == -1 ? 1 : 0, 0);
    SetHouse x = new SetHouse(0);
    for (int place : Furnished.NO_PLACES) {
      due("holds(" + place + ")", x.holds(place), -1);
      due("make(" + place + ", 0, 0)", x.make(place, 0, 0), -1);
      due("row(" + place + ", 6, 1)", x.row(place, 6, 1), -1);
      due("first(1, 1, " + place + ")", x.first(1, 1, place), -1);
    }
    // none is a neighbour's: each of the 16 has a FAMILY of its own
    for (int place = 0; place < 16; place++) x.first(1, place % 4, place);
    for (int place = 0; place < 16; place++) due("count(" + place + ", 0)", x.count(place, 0), place % 4);

    says("each holds nothing (at first), a FAMILY of a KIND, or a ROW of bytes, ints or longs.");
    for (int n = 3; n <= 6; n++) {
      x = new SetHouse(n - 3);
      for (int place = 0; place < 16; place++) due("holds(" + place + ") at first", x.holds(place), -2);
      for (int kind = 0; kind <= 4; kind++) {
        x.make(kind, kind, 0);
        due("holds(" + kind + ")", x.holds(kind), kind);
      }
      for (int sort = 6; sort <= 8; sort++) {
        x.row(sort, sort, 1);
        due("holds(" + sort + ")", x.holds(sort), sort);
      }
    }
  }

  /** Each call that has a PLACE, at two of them. */
  private static List<Long> answersAt(int p, int q) {
    SetHouse x = new SetHouse(1);
    int turn = backwards(4);
    long[] families = {
      x.make(p, 0, 0), x.add(p, 3), x.add(p, 5), x.add(p, 14), x.drop(p, 14), x.count(p, 0), x.has(p, 3), x.set(p, 1),
      x.is(p, 4, 2), x.shadow(p, q), x.up(p, q), x.closed(p, false, q), x.closed(p, true, q), x.ends(p, true, q),
      x.mix(p, q, 1, q), x.mix(q, p, 0, q), x.rest(p, false, q), x.trace(p, 1, q), x.turned(p, turn, q), x.same(p, q),
      x.product(p, q), x.product(q, p), x.same(q, p), x.push(p, 1, 3), x.pushed(p), x.holds(p), x.first(2, 3, p),
      x.first(2, 4, q), x.sum(p), x.ring(p, turn, 2), x.weight(p, 1, 3), x.matters(p, 0), x.flower(p, 2), x.cover(p),
      x.loose(p), x.shattered(p, -1), x.greatest(2, 1, p), x.turns(p), x.cross(q, p, 1), x.holds(q), x.heft(q),
      x.toss(q), x.cross(p, p, 0), x.count(p, 2),
    };
    long[] rows = {
      x.row(q, 8, 3), x.put(q, 2, 3), element(x, q, 2), x.take(q, p), x.count(p, 0), x.empty(p), x.empty(p),
      x.row(p, 8, 3), x.copy(q, 0, p, 0, 3), element(x, p, 2), x.copy(p, 2, q, 0, 1), element(x, q, 0), x.empty(q),
      x.holds(q), x.holds(p),
    };
    List<Long> all = new ArrayList<>();
    for (long answer : families) all.add(answer);
    for (long answer : rows) all.add(answer);
    return all;
  }

  private static void freeAndApart() {
    says("KINDS: 0 FREE.");
    for (int n = 3; n <= 6; n++) {
      SetHouse x = free(n);
      int all = 1 << n;
      for (int s = all - 1; s >= 0; s--) due("add(0, " + s + ")", x.add(0, s), all - s);
      for (int s = 0; s < all; s++) due("drop(0, " + s + ")", x.drop(0, s), all - 1 - s);
    }

    says("1 APART: no SET lies within another one.");
    for (int n = 3; n <= 6; n++) {
      int all = 1 << n;
      SetHouse x = of(n, 1, 0, layer(n, n / 2));
      due("count(0, 0) of the widest LAYER", x.count(0, 0), choose(n, n / 2));
      for (int s = 0; s < all; s++) {
        due("add(0, " + s + ")", x.add(0, s), Integer.bitCount(s) == n / 2 ? choose(n, n / 2) : -3);
      }
      x = of(n, 1, 0, 0);
      SetHouse y = of(n, 1, 0, all - 1);
      for (int s = 1; s < all; s++) cannotCome(x, 0, s, 0);
      for (int s = 0; s < all - 1; s++) cannotCome(y, 0, s, all - 1);
      due("add(0, 0) again", x.add(0, 0), 1);
      due("add(0, 2^n - 1) again", y.add(0, all - 1), 1);
    }
  }

  private static int low(int things) {
    return (1 << things) - 1;
  }

  private static void meet() {
    says("2 MEET: any two SETS, and each with itself, have at least t things in common (t 0 .. n, told as it is made).");
    for (int n = 3; n <= 6; n++) {
      for (int t = 1; t <= n; t++) {
        SetHouse x = of(n, 2, t, low(t));
        due("count(0, 1)", x.count(0, 1), t);
        cannotCome(x, 0, low(t) - 1, low(t) - 1);
        if (t < n) cannotCome(x, 0, low(t - 1) + (1 << t), low(t));
        due("drop(0, t things)", x.drop(0, low(t)), 0);
        if (t + 1 >= n) continue;
        fill(x, 0, low(t) + (1 << t), low(t) + (2 << t));
        due("drop(0, one of them)", x.drop(0, low(t) + (1 << t)), 1);
        // t + 1 things, of which t - 1 are in common
        if (t + 2 < n) cannotCome(x, 0, low(t - 1) + (1 << t) + (4 << t), low(t) + (2 << t));
      }
      SetHouse none = of(n, 2, 0);
      for (int s = 0; s < 1 << n; s++) due("add(0, " + s + ") where t is 0", none.add(0, s), s + 1);
      SetHouse whole = of(n, 2, n);
      for (int s = 0; s < low(n); s++) cannotCome(whole, 0, s, s);
      due("add(0, 2^n - 1) where t is n", whole.add(0, low(n)), 1);
      due("make(1, 2, -1)", whole.make(1, 2, -1), -1);
      due("make(1, 2, n + 1)", whole.make(1, 2, n + 1), -1);
    }
  }

  private static void downAndLayer() {
    says("3 DOWN: with each SET all SETS within it.");
    for (int n = 3; n <= 6; n++) {
      int all = 1 << n;
      SetHouse x = of(n, 3, 0);
      for (int s = 1; s < all; s++) due("add(0, " + s + ") ahead of the empty one", x.add(0, s), -3);
      due("add(0, 0)", x.add(0, 0), 1);
      for (int s = 1; s < all; s++) {
        if (Integer.bitCount(s) > 1) due("add(0, " + s + ") to {0}", x.add(0, s), -3);
      }
      for (int s = 1; s < all; s++) due("add(0, " + s + ") in order", x.add(0, s), s + 1);
    }

    says("4 LAYER: all are of SIZE t (a LAYER is APART, too).");
    for (int n = 3; n <= 6; n++) {
      for (int t = 0; t <= n; t++) {
        SetHouse x = of(n, 4, t);
        int there = 0;
        for (int s = 0; s < 1 << n; s++) {
          boolean fits = Integer.bitCount(s) == t;
          if (fits) there++;
          due("add(0, " + s + ") to a LAYER of " + t, x.add(0, s), fits ? there : -3);
          if (!fits) due("clash()", x.clash(), s);
        }
        family(x, 0, 4, t, layer(n, t));
        due("is(0, 1, 0)", x.is(0, 1, 0), 1);
      }
    }
  }

  private static void cross() {
    says("5 CROSS: it has a PARTNER, a FAMILY (as it was then);");
    SetHouse x = free(4, 3, 6);
    due("cross(1, 0, 1)", x.cross(1, 0, 1), 0);
    fill(x, 0, 8);
    due("drop(0, 3)", x.drop(0, 3), 2);
    due("count(1, 2)", x.count(1, 2), 2);
    due("add(1, 2), which has nothing in common with 8", x.add(1, 2), 1);
    cannotCome(x, 1, 14 - 2, 2);
    due("drop(1, 2)", x.drop(1, 2), 0);
    cannotCome(x, 1, 12, 3);
    x.row(0, 6, 1);
    cannotCome(x, 1, 12, 3);
    x.empty(0);
    cannotCome(x, 1, 12, 3);
    due("count(1, 2)", x.count(1, 2), 2);
    due("cross(1, 1, 1) with its own PLACE", x.cross(1, 1, 1), 0);
    due("count(1, 2): it had no SETS", x.count(1, 2), 0);

    says("each SET has at least t things in common with each of that, and any two of its own, too, as in MEET.");
    for (int n = 3; n <= 6; n++) {
      for (int t = 1; t < n; t++) {
        SetHouse y = free(n, low(t));
        y.cross(1, 0, t);
        cannotCome(y, 1, low(t) - 1, low(t) - 1);
        cannotCome(y, 1, low(t - 1) + (1 << t), low(t));
        fill(y, 1, low(t), low(t) + (1 << t));
        // a PARTNER without SETS asks for nothing, its own do
        y.make(0, 0, 0);
        y.cross(2, 0, t);
        fill(y, 2, low(t));
        cannotCome(y, 2, low(t - 1) + (1 << t), low(t));
      }
      SetHouse y = free(n, 0, low(n));
      y.cross(1, 0, 0);
      for (int s = 0; s < 1 << n; s++) due("add(1, " + s + ") where t is 0", y.add(1, s), s + 1);
      y = free(n, low(n));
      y.cross(1, 0, n);
      for (int s = 0; s < low(n); s++) cannotCome(y, 1, s, s);
      due("add(1, 2^n - 1) where t is n", y.add(1, low(n)), 1);
      y = free(n, low(n - 1), low(n));
      y.cross(1, 0, n);
      cannotCome(y, 1, low(n), low(n - 1));
      // with the empty SET nothing has anything in common
      y = free(n, 0, low(n));
      y.cross(1, 0, 1);
      for (int s = 0; s < 1 << n; s++) cannotCome(y, 1, s, 0);
    }
  }

  private static void comingAndGoing() {
    says("A SET may come to a FAMILY, or go, only if the KIND stays so");
    for (int place : Furnished.FAMILIES) {
      if (place == 3) continue;
      SetHouse x = Furnished.house(4);
      int there = x.count(place, 0);
      for (int left = there - 1; left >= 0; left--) due("drop of the first", x.drop(place, x.set(place, 0)), left);
      due("drop(" + place + ", 3) of none", x.drop(place, 3), -2);
    }
    int[][] refused = {{1, 7, 3}, {2, 6, 1}, {3, 5, 4}, {4, 7, 7}, {5, 1, 6}};
    for (int[] r : refused) {
      Furnished.refused(4, "add(" + r[0] + ", " + r[1] + ")", (x, none) -> x.add(r[0], r[1]), -3, r[2]);
    }
    Furnished.refused(4, "drop(3, 0)", (x, none) -> x.drop(3, 0), -3, 1);

    says("(a DOWN one: all within a SET that comes are there;");
    for (int n = 3; n <= 4; n++) {
      for (int lacking = 0; lacking < (1 << n) - 1; lacking++) {
        SetHouse x = of(n, 3, 0);
        for (int s = 0; s < 1 << n; s++) if ((s & lacking) != lacking) fill(x, 0, s);
        cannotCome(x, 0, (1 << n) - 1, lacking);
      }
    }

    says("none of which that one that goes lies within).");
    for (int n = 3; n <= 6; n++) {
      int all = 1 << n;
      SetHouse x = free(n, all - 1);
      due("closed(0, false, 0)", x.closed(0, false, 0), all);
      for (int s = 0; s < all - 1; s++) cannotGo(x, 0, s, s | s + 1);
      for (int s = all - 1; s >= 0; s--) due("drop(0, " + s + ") from the top", x.drop(0, s), s);
    }
    SetHouse x = of(3, 3, 0, 0, 1, 2, 4, 5);
    cannotGo(x, 0, 4, 5);
    due("drop(0, 2), within which others don't count", x.drop(0, 2), 4);
    due("drop(0, 5)", x.drop(0, 5), 3);
    due("drop(0, 4), which was within 5", x.drop(0, 4), 2);
  }

  private static void clashTold() {
    says("Where it doesn't the CLASH is told: the first SET, by number, with which it can't be");
    SetHouse x = of(4, 1, 0, 12, 10, 6, 5, 3);
    cannotCome(x, 0, 15, 3);
    cannotCome(x, 0, 0, 3);
    cannotCome(x, 0, 4, 5);
    cannotCome(x, 0, 8, 10);
    cannotCome(x, 0, 13, 5);
    x = of(4, 2, 1, 7, 5, 13);
    cannotCome(x, 0, 8, 5);
    cannotCome(x, 0, 2, 5);
    x = of(4, 3, 0, 0, 4);
    cannotCome(x, 0, 7, 1);
    cannotCome(x, 0, 12, 8);
    cannotCome(x, 0, 15, 1);
    x = of(4, 3, 0, 0, 1, 2, 4, 8, 9, 3);
    cannotGo(x, 0, 1, 3);
    cannotGo(x, 0, 8, 9);
    cannotGo(x, 0, 0, 1);

    says("(of a LAYER: itself;");
    x = of(4, 4, 2, 3, 5);
    for (int s : new int[] {0, 1, 8, 7, 14, 15}) cannotCome(x, 0, s, s);

    says("of MEET and CROSS with too little in itself: itself;");
    x = of(4, 2, 2, 3, 7);
    for (int s : new int[] {0, 1, 4, 8}) cannotCome(x, 0, s, s);
    cannotCome(x, 0, 12, 3);
    x.cross(1, 0, 2);
    fill(x, 1, 3);
    for (int s : new int[] {0, 1, 4, 8}) cannotCome(x, 1, s, s);

    says("of CROSS own SETS are looked at ahead of the PARTNER's).");
    x = free(5, 3, 24);
    x.cross(1, 0, 1);
    fill(x, 1, 9, 10);
    // 20 has nothing in common with its own 9 and 10, nor with the PARTNER's 3, which is less
    cannotCome(x, 1, 20, 9);
    cannotCome(x, 1, 17, 10);
    // with its own it has: the first of the PARTNER's is told
    cannotCome(x, 1, 8, 3);
    due("drop(1, 9)", x.drop(1, 9), 1);
    cannotCome(x, 1, 2, 24);
  }

  /** Calls that make a FAMILY of the one at a PLACE, which comes to another, and is FREE whatever that one is. */
  private static final String[] MAKERS = {
    "closed(.., true, ..)", "rest(.., false, ..)", "rest(.., true, ..)", "trace(.., 3, ..)",
    "mix(.., .., 0, ..)", "mix(.., .., 1, ..)", "mix(.., .., 2, ..)", "mix(.., .., 3, ..)", "mix(.., .., 4, ..)",
    "mix(.., .., 5, ..)", "shadow(.., ..)", "up(.., ..)",
  };

  private static long made(SetHouse x, int maker, int place, int to) {
    switch (maker) {
      case 0: return x.closed(place, true, to);
      case 1: return x.rest(place, false, to);
      case 2: return x.rest(place, true, to);
      case 3: return x.trace(place, 3, to);
      case 10: return x.shadow(place, to);
      case 11: return x.up(place, to);
      default: return x.mix(place, place, maker - 4, to);
    }
  }

  private static void madeOutOfOthers() {
    says("A FAMILY that is made out of others is FREE, where nothing else is told;");
    for (int maker = 0; maker < MAKERS.length; maker++) {
      for (int place : Furnished.FAMILIES) {
        // of a LAYER something else is told
        if (maker >= 10 && place == 4) continue;
        SetHouse x = Furnished.house(4);
        made(x, maker, place, 10);
        due("holds(10) of " + MAKERS[maker] + " at " + place, x.holds(10), 0);
        due("count(10, 1)", x.count(10, 1), -2);
        due("count(10, 2)", x.count(10, 2), -2);
        due("add(10, 0) to a FREE one", x.add(10, 0) > 0 ? 1 : 0, 1);
        due("add(10, 15) to a FREE one", x.add(10, 15) > 0 ? 1 : 0, 1);
      }
    }

    says("it comes to a PLACE, and what was there goes.");
    for (int maker = 0; maker < MAKERS.length; maker++) {
      SetHouse nothingThere = Furnished.house(4);
      long many = made(nothingThere, maker, 0, 10);
      for (int to = 0; to < 16; to++) {
        SetHouse x = Furnished.house(4);
        due(MAKERS[maker] + " to " + to, made(x, maker, 0, to), many);
        due("holds(" + to + ")", x.holds(to), 0);
        due("count(" + to + ", 2)", x.count(to, 2), -2);
        due("element(" + to + ", 0)", element(x, to, 0), BAD_STATE);
        for (int s = 0; s < 16; s++) due("has(" + to + ", " + s + ")", x.has(to, s), nothingThere.has(10, s));
        if (to != 0) sets(x, 0, 3, 5);
      }
    }
  }

  private static void ofAnyKind() {
    says("FAMILIES that are asked for may be of any KIND.");
    for (int place : Furnished.FAMILIES) {
      for (int i = 0; i < FamilyCalls.NAMES.length; i++) {
        long got = FamilyCalls.call(Furnished.house(4), i, 4, place);
        due(FamilyCalls.NAMES[i] + " at " + place + " is answered", got == -1 || got == -11 || got == -12 ? got : 0, 0);
      }
      for (int other : Furnished.FAMILIES) {
        for (int how = 0; how <= 5; how++) due("mix", Furnished.house(4).mix(place, other, how, 10) < 0 ? 1 : 0, 0);
        int same = Furnished.house(4).same(place, other);
        due("same(" + place + ", " + other + ") is answered", same == -2 || same >= 0 ? 1 : 0, 1);
        int product = Furnished.house(4).product(place, other);
        due("product(" + place + ", " + other + ")", product, product(Furnished.house(4), place, other));
      }
    }
  }

  private static int product(SetHouse x, int place, int other) {
    int both = 0;
    for (int s = 0; s < 16; s++) both += x.has(place, s) * x.has(other, s);
    return both * 16 - x.count(place, 0) * x.count(other, 0);
  }
}
