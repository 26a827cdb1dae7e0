/** Promises 13 to 23: FAMILIES that are made out of others. */
final class MadeSentences extends Sentences {
  static void run() {
    shadow();
    up();
    closed();
    ends();
    mix();
    rest();
    trace();
    turned();
    push();
    pushed();
    first();
  }

  private static void shadow() {
    section("Promise 13: shadow");
    says("SHADOW (of a LAYER: a LAYER of SIZE t - 1, of t 0 FREE).");
    for (int n = 3; n <= 6; n++) {
      for (int t = 0; t <= n; t++) {
        SetHouse x = new SetHouse(n - 3);
        x.first(t, choose(n, t), 0);
        due("shadow(0, 1) of LAYER " + t, x.shadow(0, 1), choose(n, t - 1));
        if (t == 0) family(x, 1, 0, -2);
        else family(x, 1, 4, t - 1, layer(n, t - 1));
        // one without SETS is a LAYER all the same
        x.make(0, 4, t);
        due("shadow(0, 0) of none of LAYER " + t, x.shadow(0, 0), 0);
        family(x, 0, t == 0 ? 0 : 4, t == 0 ? -2 : t - 1);
      }
      SetHouse x = free(n, 3);
      due("shadow(0, 0) of a FREE one that has SIZE 2 alone", x.shadow(0, 0), 2);
      family(x, 0, 0, -2, 1, 2);
    }

    says("-1, -11, -12.");
    for (int n = 3; n <= 6; n++) {
      Furnished.inOrder(n, "shadow", (x, a) -> x.shadow(a[0], a[1]), Furnished.family(), Furnished.place());
    }
  }

  private static void up() {
    section("Promise 14: up");
    says("UP (of a LAYER: a LAYER of t + 1, of t n FREE).");
    for (int n = 3; n <= 6; n++) {
      for (int t = 0; t <= n; t++) {
        SetHouse x = new SetHouse(n - 3);
        x.first(t, choose(n, t), 0);
        due("up(0, 1) of LAYER " + t, x.up(0, 1), choose(n, t + 1));
        if (t == n) family(x, 1, 0, -2);
        else family(x, 1, 4, t + 1, layer(n, t + 1));
        x.make(0, 4, t);
        due("up(0, 0) of none of LAYER " + t, x.up(0, 0), 0);
        family(x, 0, t == n ? 0 : 4, t == n ? -2 : t + 1);
      }
      SetHouse x = free(n, 0);
      due("up(0, 0) of a FREE one that has SIZE 0 alone", x.up(0, 0), n);
      family(x, 0, 0, -2, layer(n, 1));
    }

    says("-1, -11, -12.");
    for (int n = 3; n <= 6; n++) {
      Furnished.inOrder(n, "up", (x, a) -> x.up(a[0], a[1]), Furnished.family(), Furnished.place());
    }
  }

  private static int[] all(int n) {
    int[] sets = new int[1 << n];
    for (int s = 0; s < sets.length; s++) sets[s] = s;
    return sets;
  }

  private static void closed() {
    section("Promise 15: closed");
    says("All SETS within its SETS: DOWN (top false);");
    for (int n = 3; n <= 6; n++) {
      int last = (1 << n) - 1;
      SetHouse x = free(n);
      due("closed(0, false, 1) of none", x.closed(0, false, 1), 0);
      family(x, 1, 3, -2);
      fill(x, 0, 0);
      due("closed(0, false, 1) of the empty SET", x.closed(0, false, 1), 1);
      family(x, 1, 3, -2, 0);
      fill(x, 0, last);
      due("closed(0, false, 1) of the whole SET", x.closed(0, false, 1), 1 << n);
      family(x, 1, 3, -2, all(n));
      put(x, 0, 0, 0, 5);
      due("closed(0, false, 0) of 5", x.closed(0, false, 0), 4);
      family(x, 0, 3, -2, 0, 1, 4, 5);
      cannotCome(x, 0, 6, 2);
    }

    says("all that its SETS lie within (true).");
    for (int n = 3; n <= 6; n++) {
      int last = (1 << n) - 1;
      SetHouse x = free(n);
      due("closed(0, true, 1) of none", x.closed(0, true, 1), 0);
      family(x, 1, 0, -2);
      fill(x, 0, last);
      due("closed(0, true, 1) of the whole SET", x.closed(0, true, 1), 1);
      family(x, 1, 0, -2, last);
      fill(x, 0, 0);
      due("closed(0, true, 1) of the empty SET", x.closed(0, true, 1), 1 << n);
      family(x, 1, 0, -2, all(n));
      put(x, 0, 3, 0, 0, 1);
      due("drop(0, 1)", x.drop(0, 1), 1);
      due("closed(0, true, 0) of DOWN", x.closed(0, true, 0), 1 << n);
      due("holds(0)", x.holds(0), 0);
      put(x, 0, 0, 0, last - 2);
      due("closed(0, true, 0) of all but thing 1", x.closed(0, true, 0), 2);
      family(x, 0, 0, -2, last - 2, last);
    }

    says("-1, -11, -12.");
    for (int n = 3; n <= 6; n++) {
      Furnished.inOrder(n, "closed down", (x, a) -> x.closed(a[0], false, a[1]), Furnished.family(), Furnished.place());
      Furnished.inOrder(n, "closed up", (x, a) -> x.closed(a[0], true, a[1]), Furnished.family(), Furnished.place());
    }
  }

  private static void ends() {
    section("Promise 16: ends");
    says("Those of its SETS within which (greatest false), or that lie within, no other one of them: APART.");
    for (int n = 3; n <= 6; n++) {
      int last = (1 << n) - 1;
      for (boolean greatest : new boolean[] {false, true}) {
        SetHouse x = free(n);
        due("ends(0, " + greatest + ", 1) of none", x.ends(0, greatest, 1), 0);
        family(x, 1, 1, -2);
        fill(x, 0, 5);
        due("ends(0, " + greatest + ", 1) of one", x.ends(0, greatest, 1), 1);
        family(x, 1, 1, -2, 5);
        x = full(n);
        due("ends(0, " + greatest + ", 1) of all", x.ends(0, greatest, 1), 1);
        family(x, 1, 1, -2, greatest ? last : 0);
        // a LAYER has no other ends than all of it, and is APART then
        x.first(2, choose(n, 2), 0);
        due("ends(0, " + greatest + ", 0) of a LAYER", x.ends(0, greatest, 0), choose(n, 2));
        family(x, 0, 1, -2, layer(n, 2));
        // nothing of the SIZES between is there
        x = free(n, 0, last);
        due("ends(0, " + greatest + ", 0) of the empty and the whole", x.ends(0, greatest, 0), 1);
        family(x, 0, 1, -2, greatest ? last : 0);
        cannotCome(x, 0, 1, greatest ? last : 0);
      }
      SetHouse x = free(n, 1, 2, 3, 4);
      due("ends(0, false, 1)", x.ends(0, false, 1), 3);
      family(x, 1, 1, -2, 1, 2, 4);
      due("ends(0, true, 1)", x.ends(0, true, 1), 2);
      family(x, 1, 1, -2, 3, 4);
    }

    says("-1, -11, -12.");
    for (int n = 3; n <= 6; n++) {
      Furnished.inOrder(n, "ends", (x, a) -> x.ends(a[0], false, a[1]), Furnished.family(), Furnished.place());
      Furnished.inOrder(n, "ends greatest", (x, a) -> x.ends(a[0], true, a[1]), Furnished.family(), Furnished.place());
    }
  }

  private static void mix() {
    section("Promise 17: mix");
    says("how = 0 SETS that are in both, 1 in either, 2 in the first alone, 3 in just one;");
    SetHouse x = free(4, 1, 6, 12);
    put(x, 1, 0, 0, 6, 3);
    int[][] want = {{6}, {1, 3, 6, 12}, {1, 12}, {1, 3, 12}};
    int[][] turnedRound = {{6}, {1, 3, 6, 12}, {3}, {1, 3, 12}};
    for (int how = 0; how <= 3; how++) {
      due("mix(0, 1, " + how + ", 2)", x.mix(0, 1, how, 2), want[how].length);
      family(x, 2, 0, -2, want[how]);
      due("mix(1, 0, " + how + ", 2)", x.mix(1, 0, how, 2), turnedRound[how].length);
      family(x, 2, 0, -2, turnedRound[how]);
    }
    for (int n = 3; n <= 6; n++) {
      int many = 1 << n;
      int[] allAndNone = {0, many, many, many, 0, 0};
      int[] noneAndAll = {0, many, 0, many, 0, 0};
      int[] itself = {many, many, 0, 0, many, many};
      for (int how = 0; how <= 5; how++) {
        x = full(n);
        x.make(1, 0, 0);
        due("mix(all, none, " + how + ")", x.mix(0, 1, how, 2), allAndNone[how]);
        due("mix(none, all, " + how + ")", x.mix(1, 0, how, 2), noneAndAll[how]);
        due("mix(none, none, " + how + ")", x.mix(1, 1, how, 2), 0);
        due("mix(all, all, " + how + ")", x.mix(0, 0, how, 2), itself[how]);
      }
      for (int how : new int[] {-1, 6, MIN, MAX}) due("mix(0, 0, " + how + ", 2)", x.mix(0, 0, how, 2), -1);
    }

    says("4 what a SET of the one and one of the other have in common, 5 what either has.");
    x = free(4, 1, 6, 12);
    put(x, 1, 0, 0, 6, 3);
    due("mix(0, 1, 4, 2)", x.mix(0, 1, 4, 2), 5);
    family(x, 2, 0, -2, 0, 1, 2, 4, 6);
    due("mix(0, 1, 5, 2)", x.mix(0, 1, 5, 2), 5);
    family(x, 2, 0, -2, 3, 6, 7, 14, 15);
    for (int n = 3; n <= 6; n++) {
      int last = (1 << n) - 1;
      x = free(n, 0, last);
      put(x, 1, 0, 0, 0);
      put(x, 2, 0, 0, last);
      put(x, 3, 0, 0, 3, 5);
      due("mix(.., the empty SET, 4)", x.mix(0, 1, 4, 4), 1);
      sets(x, 4, 0);
      due("mix(.., the whole SET, 5)", x.mix(0, 2, 5, 4), 1);
      sets(x, 4, last);
      due("mix(.., the whole SET, 4)", x.mix(3, 2, 4, 4), 2);
      sets(x, 4, 3, 5);
      due("mix(.., the empty SET, 5)", x.mix(3, 1, 5, 4), 2);
      sets(x, 4, 3, 5);
      // each with itself, too; and in a PLACE of its own
      due("mix(3, 3, 4, 3)", x.mix(3, 3, 4, 3), 3);
      sets(x, 3, 1, 3, 5);
      due("mix(3, 3, 5, 3)", x.mix(3, 3, 5, 3), 4);
      sets(x, 3, 1, 3, 5, 7);
    }

    says("-1, -11, -12.");
    for (int n = 3; n <= 6; n++) {
      Furnished.inOrder(n, "mix", (y, a) -> y.mix(a[0], a[1], a[2], a[3]),
          Furnished.family(), Furnished.family(), Furnished.range(0, 5), Furnished.place());
    }
  }

  private static void rest() {
    section("Promise 18: rest");
    says("All SETS that are not in it (within false);");
    for (int n = 3; n <= 6; n++) {
      SetHouse x = free(n);
      due("rest(0, false, 1) of none", x.rest(0, false, 1), 1 << n);
      family(x, 1, 0, -2, all(n));
      due("rest(1, false, 1) of all", x.rest(1, false, 1), 0);
      family(x, 1, 0, -2);
      fill(x, 0, 0, (1 << n) - 1);
      due("rest(0, false, 0)", x.rest(0, false, 0), (1 << n) - 2);
      due("has(0, 0)", x.has(0, 0), 0);
      due("has(0, 1)", x.has(0, 1), 1);
      due("has(0, 2^n - 1)", x.has(0, (1 << n) - 1), 0);
      due("has(0, 2^n - 2)", x.has(0, (1 << n) - 2), 1);
    }

    says("all that are what is lacking in one of its SETS (true).");
    for (int n = 3; n <= 6; n++) {
      int last = (1 << n) - 1;
      SetHouse x = free(n);
      due("rest(0, true, 1) of none", x.rest(0, true, 1), 0);
      family(x, 1, 0, -2);
      fill(x, 0, 0);
      due("rest(0, true, 1) of the empty SET", x.rest(0, true, 1), 1);
      family(x, 1, 0, -2, last);
      due("rest(1, true, 1) of the whole SET", x.rest(1, true, 1), 1);
      family(x, 1, 0, -2, 0);
      put(x, 0, 4, 1, 1, 2);
      due("rest(0, true, 0) of a LAYER", x.rest(0, true, 0), 2);
      family(x, 0, 0, -2, last - 2, last - 1);
      due("rest(0, true, 0) of all", full(n).rest(0, true, 0), 1 << n);
    }

    says("-1, -11, -12.");
    for (int n = 3; n <= 6; n++) {
      Furnished.inOrder(n, "rest", (x, a) -> x.rest(a[0], false, a[1]), Furnished.family(), Furnished.place());
      Furnished.inOrder(n, "rest within", (x, a) -> x.rest(a[0], true, a[1]), Furnished.family(), Furnished.place());
    }
  }

  private static void trace() {
    section("Promise 19: trace");
    says("What a SET s and its SETS have in common.");
    for (int n = 3; n <= 6; n++) {
      int last = (1 << n) - 1;
      SetHouse x = free(n, 5, 6, last);
      due("trace(0, 0, 1)", x.trace(0, 0, 1), 1);
      family(x, 1, 0, -2, 0);
      due("trace(0, 2^n - 1, 1)", x.trace(0, last, 1), 3);
      family(x, 1, 0, -2, 5, 6, last);
      due("trace(0, 3, 1)", x.trace(0, 3, 1), 3);
      family(x, 1, 0, -2, 1, 2, 3);
      due("trace(0, 2^(n - 1), 1)", x.trace(0, 1 << n - 1, 1), n == 3 ? 1 : 2);
      due("trace(0, 2^n - 1, 0) of none", free(n).trace(0, last, 0), 0);
      x = full(n);
      due("trace(0, 5, 0) of all", x.trace(0, 5, 0), 4);
      family(x, 0, 0, -2, 0, 1, 4, 5);
    }

    says("-1, -11, -12.");
    for (int n = 3; n <= 6; n++) {
      Furnished.inOrder(n, "trace", (x, a) -> x.trace(a[0], a[1], a[2]),
          Furnished.family(), Furnished.range(0, (1 << n) - 1), Furnished.place());
    }
  }

  private static void turned() {
    section("Promise 20: turned");
    says("It TURNED (of its own KIND, with t; a CROSS becomes MEET).");
    int[] t = {-2, -2, 1, -2, 2, 1};
    for (int n = 3; n <= 6; n++) {
      for (int kind = 0; kind <= 5; kind++) {
        SetHouse x = Furnished.house(n);
        int there = x.count(kind, 0);
        due("turned(" + kind + ", as it is, 10)", x.turned(kind, asItIs(n), 10), there);
        due("holds(10)", x.holds(10), kind == 5 ? 2 : kind);
        due("count(10, 1)", x.count(10, 1), t[kind]);
        due("count(10, 2)", x.count(10, 2), -2);
        for (int i = 0; i <= there; i++) due("set(10, " + i + ")", x.set(10, i), x.set(kind, i));
      }
      for (int told = 0; told <= n; told += n) {
        SetHouse x = new SetHouse(n - 3);
        x.make(0, 2, told);
        x.make(1, 4, told);
        x.cross(2, 0, told);
        for (int place = 0; place < 3; place++) {
          due("turned(" + place + ", backwards, " + place + ") of none", x.turned(place, backwards(n), place), 0);
          family(x, place, place == 1 ? 4 : 2, told);
        }
      }
      SetHouse x = full(n);
      due("turned(0, backwards, 0) of all", x.turned(0, backwards(n), 0), 1 << n);
      x = free(n, 0, (1 << n) - 1);
      due("turned(0, backwards, 0) of the empty and the whole", x.turned(0, backwards(n), 0), 2);
      sets(x, 0, 0, (1 << n) - 1);
    }
    // what was the PARTNER's asks for nothing any more
    SetHouse x = free(4, 1);
    x.cross(1, 0, 1);
    x.turned(1, asItIs(4), 1);
    due("add(1, 2), which has nothing in common with 1", x.add(1, 2), 1);
    cannotCome(x, 1, 1, 2);
    cannotCome(x, 1, 0, 0);

    says("-1 (no TURN), -11, -12.");
    for (int n = 3; n <= 6; n++) {
      Furnished.Values turn = Furnished.these(new int[] {asItIs(n), backwards(n)}, noOrders(n));
      Furnished.inOrder(n, "turned", (y, a) -> y.turned(a[0], a[1], a[2]), Furnished.family(), turn, Furnished.place());
    }
  }

  private static void push() {
    section("Promise 21: push");
    says("PUSH i to j, in its own PLACE: how many SETS changed;");
    for (int n = 3; n <= 6; n++) {
      due("push(0, 1, 0) of none", free(n).push(0, 1, 0), 0);
      due("push(0, n - 1, 0) of all", full(n).push(0, n - 1, 0), 0);
      SetHouse x = free(n, 2, 6, 4);
      due("push(0, 1, 0)", x.push(0, 1, 0), 2);
      family(x, 0, 0, -2, 1, 4, 5);
      due("push(0, 1, 0) again", x.push(0, 1, 0), 0);
      due("push(0, 0, 1) back", x.push(0, 0, 1), 2);
      family(x, 0, 0, -2, 2, 4, 6);
      for (int place = 1; place < 16; place++) due("holds(" + place + ")", x.holds(place), -2);
    }

    says("a LAYER stays one, others are FREE then (also if none changed).");
    for (int n = 3; n <= 6; n++) {
      for (int t = 0; t <= n; t++) {
        SetHouse x = new SetHouse(n - 3);
        x.first(t, choose(n, t), 0);
        due("push(0, 1, 0) of all of LAYER " + t, x.push(0, 1, 0), 0);
        family(x, 0, 4, t, layer(n, t));
      }
      SetHouse moved = of(n, 4, 1, 2);
      due("push(0, 1, 0) of a LAYER", moved.push(0, 1, 0), 1);
      family(moved, 0, 4, 1, 1);
      for (int place : new int[] {0, 1, 2, 3, 5}) {
        SetHouse x = Furnished.house(n);
        int there = x.count(place, 0);
        // each SET that has thing 1 has 0 as well, or stands beside what it would become
        due("push(" + place + ", 1, 0)", x.push(place, 1, 0), 0);
        due("holds(" + place + ")", x.holds(place), 0);
        due("count(" + place + ", 1)", x.count(place, 1), -2);
        due("count(" + place + ", 2)", x.count(place, 2), -2);
        due("count(" + place + ", 0)", x.count(place, 0), there);
      }
      SetHouse meet = of(n, 2, 1, 2);
      due("push(0, 1, 0) of MEET", meet.push(0, 1, 0), 1);
      family(meet, 0, 0, -2, 1);
    }

    says("-1, -11, -12.");
    for (int n = 3; n <= 6; n++) {
      Furnished.Values low = Furnished.these(new int[] {0}, -1, n, MIN, MAX);
      Furnished.Values high = Furnished.these(new int[] {1, n - 1}, -1, n, MIN, MAX);
      Furnished.inOrder(n, "push", (x, a) -> x.push(a[0], a[1], a[2]), Furnished.family(), high, low);
      Furnished.inOrder(n, "push", (x, a) -> x.push(a[0], a[1], a[2]), Furnished.family(), low, high);
      for (int i = 0; i < n; i++) {
        int thing = i;
        for (int place : new int[] {0, 3, 6, 10, -1, 16}) {
          Furnished.refused(n, "push(" + place + ", i, i)", (x, a) -> x.push(place, thing, thing), -1);
        }
      }
    }
  }

  private static void pushed() {
    section("Promise 22: pushed");
    says("PUSHED: how many PUSHES changed something;");
    for (int n = 3; n <= 6; n++) {
      due("pushed(0) of none", free(n).pushed(0), 0);
      due("pushed(0) of all", full(n).pushed(0), 0);
      SetHouse x = free(n, 2, 6, 4);
      // 1 to 0: 1, 5, 4 (one PUSH, of two SETS); 2 to 0: no; 2 to 1: 1, 3, 2
      due("pushed(0)", x.pushed(0), 2);
      sets(x, 0, 1, 2, 3);
      x = free(n, 1 << n - 1);
      due("pushed(0) of the last thing", x.pushed(0), 1);
      sets(x, 0, 1);
    }
    SetHouse six = free(6, 56);
    // 3 to 0: 49; 4 to 1: 35; 5 to 2: 7
    due("pushed(0) of the last three of six", six.pushed(0), 3);
    sets(six, 0, 7);

    says("KIND as with push().");
    for (int n = 3; n <= 6; n++) {
      SetHouse x = of(n, 4, 1, 1 << n - 1);
      due("pushed(0) of a LAYER", x.pushed(0), 1);
      family(x, 0, 4, 1, 1);
      due("pushed(0) of a LAYER, where nothing changes", x.pushed(0), 0);
      family(x, 0, 4, 1, 1);
      for (int t = 0; t <= n; t += n) {
        x.make(1, 4, t);
        due("pushed(1) of none", x.pushed(1), 0);
        family(x, 1, 4, t);
      }
      for (int kind = 0; kind <= 3; kind++) {
        x.make(1, kind, 0);
        due("pushed(1) of KIND " + kind, x.pushed(1), 0);
        family(x, 1, 0, -2);
      }
      x.cross(1, 0, 1);
      due("pushed(1) of CROSS", x.pushed(1), 0);
      family(x, 1, 0, -2);
      due("count(1, 2)", x.count(1, 2), -2);
    }

    says("-1, -11, -12.");
    for (int n = 3; n <= 6; n++) Furnished.inOrder(n, "pushed", (x, a) -> x.pushed(a[0]), Furnished.family());
  }

  private static void first() {
    section("Promise 23: first");
    says("The first m SETS of LAYER k, by number: a LAYER.");
    for (int n = 3; n <= 6; n++) {
      for (int k = 0; k <= n; k++) {
        int[] layer = layer(n, k);
        for (int m : new int[] {0, 1, layer.length - 1, layer.length}) {
          SetHouse x = new SetHouse(n - 3);
          due("first(" + k + ", " + m + ", 15)", x.first(k, m, 15), m);
          family(x, 15, 4, k, java.util.Arrays.copyOf(layer, m));
        }
      }
    }

    says("-1 (m below 0, or above how many there are, too).");
    for (int n = 3; n <= 6; n++) {
      for (int k = 0; k <= n; k++) {
        int size = k;
        Furnished.Values only = Furnished.these(new int[] {size}, -1, n + 1, MIN, MAX);
        Furnished.inOrder(n, "first", (x, a) -> x.first(a[0], a[1], a[2]),
            only, Furnished.range(0, choose(n, k)), Furnished.place());
      }
    }
  }
}
