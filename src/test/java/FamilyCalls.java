/** Each call of the face that asks for a FAMILY at one PLACE, the other arguments being such as are taken. */
final class FamilyCalls {
  static final String[] NAMES = {
    "cross(10, .., 0)", "add(.., 3)", "drop(.., 3)", "count(.., 0)", "count(.., 1)", "count(.., 2)", "has(.., 3)",
    "set(.., 0)", "is(.., 0, 0)", "is(.., 4, 0)", "shadow(.., 10)", "up(.., 10)", "closed(.., false, 10)",
    "closed(.., true, 10)", "ends(.., false, 10)", "ends(.., true, 10)", "mix(.., 0, 0, 10)", "mix(0, .., 0, 10)",
    "rest(.., false, 10)", "rest(.., true, 10)", "trace(.., 3, 10)", "turned(.., turn, 10)", "push(.., 1, 0)",
    "pushed(..)", "sum(..)", "ring(.., ring, 1)", "weight(.., 1, 2)", "matters(.., 0)", "product(.., 3)",
    "product(3, ..)", "flower(.., 2)", "cover(..)", "loose(..)", "shattered(.., -1)", "shattered(.., 3)", "same(.., 0)",
    "same(0, ..)", "turns(..)", "take(6, ..)", "heft(..)", "toss(..)",
  };

  private FamilyCalls() {}

  static long call(SetHouse x, int i, int n, int p) {
    return i < 20 ? families(x, i, p) : others(x, i, n, p);
  }

  private static long families(SetHouse x, int i, int p) {
    switch (i) {
      case 0: return x.cross(10, p, 0);
      case 1: return x.add(p, 3);
      case 2: return x.drop(p, 3);
      case 3: return x.count(p, 0);
      case 4: return x.count(p, 1);
      case 5: return x.count(p, 2);
      case 6: return x.has(p, 3);
      case 7: return x.set(p, 0);
      case 8: return x.is(p, 0, 0);
      case 9: return x.is(p, 4, 0);
      case 10: return x.shadow(p, 10);
      case 11: return x.up(p, 10);
      case 12: return x.closed(p, false, 10);
      case 13: return x.closed(p, true, 10);
      case 14: return x.ends(p, false, 10);
      case 15: return x.ends(p, true, 10);
      case 16: return x.mix(p, 0, 0, 10);
      case 17: return x.mix(0, p, 0, 10);
      case 18: return x.rest(p, false, 10);
      default: return x.rest(p, true, 10);
    }
  }

  private static long others(SetHouse x, int i, int n, int p) {
    switch (i) {
      case 20: return x.trace(p, 3, 10);
      case 21: return x.turned(p, Sentences.backwards(n), 10);
      case 22: return x.push(p, 1, 0);
      case 23: return x.pushed(p);
      case 24: return x.sum(p);
      case 25: return x.ring(p, Sentences.asItIs(n), 1);
      case 26: return x.weight(p, 1, 2);
      case 27: return x.matters(p, 0);
      case 28: return x.product(p, 3);
      case 29: return x.product(3, p);
      case 30: return x.flower(p, 2);
      case 31: return x.cover(p);
      case 32: return x.loose(p);
      case 33: return x.shattered(p, -1);
      case 34: return x.shattered(p, 3);
      case 35: return x.same(p, 0);
      case 36: return x.same(0, p);
      case 37: return x.turns(p);
      case 38: return x.take(6, p);
      case 39: return x.heft(p);
      default: return x.toss(p);
    }
  }
}
