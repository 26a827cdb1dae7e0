import java.util.ArrayList;
import java.util.Arrays;
import java.util.HashMap;
import java.util.List;
import java.util.Map;
import java.util.TreeMap;
import java.util.TreeSet;

/**
 * The document's sentences, written down as they stand and without regard to speed: FAMILIES are
 * TreeSets, and whatever is looked for is found by trying everything. The program is compared with it.
 */
public final class NaiveHouse {
  private static final class Family {
    int kind;
    int t;
    TreeSet<Integer> sets = new TreeSet<>();
    TreeSet<Integer> partner;

    Family(int kind, int t) {
      this.kind = kind;
      this.t = t;
    }
  }

  private static final class Row {
    final int sort;
    final long[] v;

    Row(int sort, int m) {
      this.sort = sort;
      this.v = new long[m];
    }
  }

  private static final Map<String, TreeSet<Integer>> GREATEST = new HashMap<>();

  private final int n;
  private final int all;
  private final Object[] shelf = new Object[16];
  private int clash = -2;
  private List<Integer> petals = new ArrayList<>();

  public NaiveHouse(int things) {
    n = 3 + ((things % 4) + 4) % 4;
    all = 1 << n;
  }

  private static int size(int s) {
    int k = 0;
    for (int i = 0; i < 31; i++) if ((s & (1 << i)) != 0) k++;
    return k;
  }

  private static boolean within(int a, int b) {
    return (a | b) == b;
  }

  private boolean in(int x, int from, int to) {
    return from <= x && x <= to;
  }

  private boolean p(int place) {
    return in(place, 0, 15);
  }

  private boolean s(int set) {
    return in(set, 0, all - 1);
  }

  private int fam(int place) {
    if (shelf[place] == null) return -11;
    if (!(shelf[place] instanceof Family)) return -12;
    return 0;
  }

  private int fams(int a, int b) {
    int r = fam(a);
    return r != 0 ? r : fam(b);
  }

  private int rowAt(int place) {
    if (shelf[place] == null) return -11;
    if (!(shelf[place] instanceof Row)) return -12;
    return 0;
  }

  private Family f(int place) {
    return (Family) shelf[place];
  }

  private boolean kindOk(int kind, int t) {
    if (!in(kind, 0, 4)) return false;
    return !(kind == 2 || kind == 4) || in(t, 0, n);
  }

  private int comes(int to, int kind, int t, TreeSet<Integer> sets) {
    Family x = new Family(kind, t);
    x.sets = new TreeSet<>(sets);
    shelf[to] = x;
    return sets.size();
  }

  // ---- families

  public int make(int place, int kind, int t) {
    if (!p(place) || !kindOk(kind, t)) return -1;
    shelf[place] = new Family(kind, t);
    return 0;
  }

  public int cross(int place, int partner, int t) {
    if (!p(place) || !p(partner) || !in(t, 0, n)) return -1;
    if (fam(partner) != 0) return fam(partner);
    Family x = new Family(5, t);
    x.partner = new TreeSet<>(f(partner).sets);
    shelf[place] = x;
    return 0;
  }

  private int clashOfComing(Family x, int set) {
    if (x.sets.contains(set)) return -2;
    if (x.kind == 1) {
      for (int o : x.sets) if (within(o, set) || within(set, o)) return o;
    }
    if (x.kind == 2 || x.kind == 5) {
      if (size(set) < x.t) return set;
      for (int o : x.sets) if (size(o & set) < x.t) return o;
    }
    if (x.kind == 5) {
      for (int o : x.partner) if (size(o & set) < x.t) return o;
    }
    if (x.kind == 3) {
      for (int o = 0; o < set; o++) if (within(o, set) && !x.sets.contains(o)) return o;
    }
    if (x.kind == 4 && size(set) != x.t) return set;
    return -2;
  }

  public int add(int place, int set) {
    if (!p(place) || !s(set)) return -1;
    if (fam(place) != 0) return fam(place);
    int c = clashOfComing(f(place), set);
    if (c != -2) {
      clash = c;
      return -3;
    }
    f(place).sets.add(set);
    return f(place).sets.size();
  }

  public int drop(int place, int set) {
    if (!p(place) || !s(set)) return -1;
    if (fam(place) != 0) return fam(place);
    if (!f(place).sets.contains(set)) return -2;
    if (f(place).kind == 3) {
      for (int o : f(place).sets) {
        if (o != set && within(set, o)) {
          clash = o;
          return -3;
        }
      }
    }
    f(place).sets.remove(set);
    return f(place).sets.size();
  }

  public int clash() {
    return clash;
  }

  public int empty(int place) {
    if (!p(place)) return -1;
    int held = shelf[place] != null ? 1 : 0;
    shelf[place] = null;
    return held;
  }

  public int holds(int place) {
    if (!p(place)) return -1;
    if (shelf[place] == null) return -2;
    return shelf[place] instanceof Family ? f(place).kind : ((Row) shelf[place]).sort;
  }

  public int count(int place, int what) {
    if (!p(place) || !in(what, 0, 9)) return -1;
    if (fam(place) != 0) return fam(place);
    Family x = f(place);
    if (what == 0) return x.sets.size();
    if (what == 1) return x.kind == 0 || x.kind == 1 || x.kind == 3 ? -2 : x.t;
    if (what == 2) return x.kind == 5 ? x.partner.size() : -2;
    int k = 0;
    for (int o : x.sets) if (size(o) == what - 3) k++;
    return k;
  }

  public int has(int place, int set) {
    if (!p(place) || !s(set)) return -1;
    if (fam(place) != 0) return fam(place);
    return f(place).sets.contains(set) ? 1 : 0;
  }

  public int set(int place, int i) {
    if (!p(place) || i < 0) return -1;
    if (fam(place) != 0) return fam(place);
    List<Integer> l = new ArrayList<>(f(place).sets);
    return i < l.size() ? l.get(i) : -2;
  }

  private int isDown(TreeSet<Integer> x) {
    for (int o : x) {
      for (int u = 0; u < all; u++) {
        if (within(u, o) && !x.contains(u)) {
          clash = u + 64 * o;
          return 0;
        }
      }
    }
    return 1;
  }

  public int is(int place, int kind, int t) {
    if (!p(place) || !kindOk(kind, t)) return -1;
    if (fam(place) != 0) return fam(place);
    TreeSet<Integer> x = f(place).sets;
    if (kind == 3) return isDown(x);
    for (int a = 0; a < all; a++) {
      for (int b = a; b < all; b++) {
        boolean bad = false;
        if (kind == 1) bad = a != b && x.contains(a) && x.contains(b) && (within(a, b) || within(b, a));
        if (kind == 2) bad = x.contains(a) && x.contains(b) && size(a & b) < t;
        if (kind == 4) bad = a == b && x.contains(a) && size(a) != t;
        if (bad) {
          clash = a + 64 * b;
          return 0;
        }
      }
    }
    return 1;
  }

  // ---- made out of others

  public int shadow(int place, int to) {
    if (!p(place) || !p(to)) return -1;
    if (fam(place) != 0) return fam(place);
    TreeSet<Integer> y = new TreeSet<>();
    for (int o : f(place).sets) for (int i = 0; i < n; i++) if ((o >> i & 1) == 1) y.add(o - (1 << i));
    boolean layer = f(place).kind == 4 && f(place).t > 0;
    return comes(to, layer ? 4 : 0, f(place).t - 1, y);
  }

  public int up(int place, int to) {
    if (!p(place) || !p(to)) return -1;
    if (fam(place) != 0) return fam(place);
    TreeSet<Integer> y = new TreeSet<>();
    for (int o : f(place).sets) for (int i = 0; i < n; i++) if ((o >> i & 1) == 0) y.add(o + (1 << i));
    boolean layer = f(place).kind == 4 && f(place).t < n;
    return comes(to, layer ? 4 : 0, f(place).t + 1, y);
  }

  public int closed(int place, boolean top, int to) {
    if (!p(place) || !p(to)) return -1;
    if (fam(place) != 0) return fam(place);
    TreeSet<Integer> y = new TreeSet<>();
    for (int o : f(place).sets) {
      for (int u = 0; u < all; u++) if (top ? within(o, u) : within(u, o)) y.add(u);
    }
    return comes(to, top ? 0 : 3, 0, y);
  }

  public int ends(int place, boolean greatest, int to) {
    if (!p(place) || !p(to)) return -1;
    if (fam(place) != 0) return fam(place);
    TreeSet<Integer> y = new TreeSet<>();
    for (int o : f(place).sets) {
      boolean end = true;
      for (int u : f(place).sets) if (u != o && (greatest ? within(o, u) : within(u, o))) end = false;
      if (end) y.add(o);
    }
    return comes(to, 1, 0, y);
  }

  public int mix(int place, int other, int how, int to) {
    if (!p(place) || !p(other) || !in(how, 0, 5) || !p(to)) return -1;
    if (fams(place, other) != 0) return fams(place, other);
    TreeSet<Integer> y = new TreeSet<>();
    for (int u = 0; u < all; u++) {
      boolean a = f(place).sets.contains(u);
      boolean b = f(other).sets.contains(u);
      if (how == 0 && a && b || how == 1 && (a || b) || how == 2 && a && !b || how == 3 && a != b) y.add(u);
    }
    for (int a : f(place).sets) {
      for (int b : f(other).sets) {
        if (how == 4) y.add(a & b);
        if (how == 5) y.add(a | b);
      }
    }
    return comes(to, 0, 0, y);
  }

  public int rest(int place, boolean within, int to) {
    if (!p(place) || !p(to)) return -1;
    if (fam(place) != 0) return fam(place);
    TreeSet<Integer> y = new TreeSet<>();
    for (int u = 0; u < all; u++) {
      if (within ? f(place).sets.contains(all - 1 - u) : !f(place).sets.contains(u)) y.add(u);
    }
    return comes(to, 0, 0, y);
  }

  public int trace(int place, int s, int to) {
    if (!p(place) || !s(s) || !p(to)) return -1;
    if (fam(place) != 0) return fam(place);
    TreeSet<Integer> y = new TreeSet<>();
    for (int o : f(place).sets) y.add(o & s);
    return comes(to, 0, 0, y);
  }

  private int[] order(int digits) {
    if (digits < 0) return null;
    int[] d = new int[n];
    TreeSet<Integer> seen = new TreeSet<>();
    int left = digits;
    for (int i = 0; i < n; i++) {
      d[i] = left % 8;
      left /= 8;
      if (d[i] < n) seen.add(d[i]);
    }
    return left == 0 && seen.size() == n ? d : null;
  }

  private TreeSet<Integer> turnAll(TreeSet<Integer> x, int[] d) {
    TreeSet<Integer> y = new TreeSet<>();
    for (int o : x) {
      int u = 0;
      for (int i = 0; i < n; i++) if ((o >> i & 1) == 1) u += 1 << d[i];
      y.add(u);
    }
    return y;
  }

  public int turned(int place, int turn, int to) {
    if (!p(place) || order(turn) == null || !p(to)) return -1;
    if (fam(place) != 0) return fam(place);
    Family x = f(place);
    return comes(to, x.kind == 5 ? 2 : x.kind, x.t, turnAll(x.sets, order(turn)));
  }

  private static TreeSet<Integer> pushOnce(TreeSet<Integer> x, int i, int j) {
    TreeSet<Integer> y = new TreeSet<>();
    for (int o : x) {
      int u = (o & ~(1 << i)) | (1 << j);
      boolean moves = (o >> i & 1) == 1 && (o >> j & 1) == 0 && !x.contains(u);
      y.add(moves ? u : o);
    }
    return y;
  }

  private void afterPush(int place, TreeSet<Integer> y) {
    Family x = f(place);
    comes(place, x.kind == 4 ? 4 : 0, x.t, y);
  }

  public int push(int place, int i, int j) {
    if (!p(place) || !in(i, 0, n - 1) || !in(j, 0, n - 1) || i == j) return -1;
    if (fam(place) != 0) return fam(place);
    TreeSet<Integer> before = f(place).sets;
    TreeSet<Integer> y = pushOnce(before, i, j);
    int changed = 0;
    for (int o : before) if (!y.contains(o)) changed++;
    afterPush(place, y);
    return changed;
  }

  public int pushed(int place) {
    if (!p(place)) return -1;
    if (fam(place) != 0) return fam(place);
    TreeSet<Integer> y = f(place).sets;
    int pushes = 0;
    boolean more = true;
    while (more) {
      more = false;
      for (int i = 1; i <= n - 1; i++) {
        for (int j = 0; j <= i - 1; j++) {
          TreeSet<Integer> z = pushOnce(y, i, j);
          if (!z.equals(y)) {
            pushes++;
            more = true;
          }
          y = z;
        }
      }
    }
    afterPush(place, y);
    return pushes;
  }

  private List<Integer> layer(int k) {
    List<Integer> l = new ArrayList<>();
    for (int u = 0; u < all; u++) if (size(u) == k) l.add(u);
    return l;
  }

  public int first(int k, int m, int to) {
    if (!in(k, 0, n) || !p(to) || m < 0 || m > layer(k).size()) return -1;
    return comes(to, 4, k, new TreeSet<>(layer(k).subList(0, m)));
  }

  // ---- numbers

  private static int factorial(int k) {
    return k == 0 ? 1 : k * factorial(k - 1);
  }

  public int sum(int place) {
    if (!p(place)) return -1;
    if (fam(place) != 0) return fam(place);
    int sum = 0;
    for (int o : f(place).sets) sum += factorial(size(o)) * factorial(n - size(o));
    return sum;
  }

  public int rank(int set) {
    return s(set) ? layer(size(set)).indexOf(set) : -1;
  }

  public int ranked(int k, int rank) {
    if (!in(k, 0, n) || rank < 0) return -1;
    return rank < layer(k).size() ? layer(k).get(rank) : -2;
  }

  private static long choose(int a, int k) {
    long[] line = new long[k + 1];
    line[0] = 1;
    for (int i = 0; i < a; i++) for (int j = k; j > 0; j--) line[j] += line[j - 1];
    return line[k];
  }

  private static List<Integer> cascadeOf(int m, int k) {
    List<Integer> l = new ArrayList<>();
    long left = m;
    for (int j = k; left > 0; j--) {
      int a = j;
      while (choose(a + 1, j) <= left) a++;
      l.add(a);
      left -= choose(a, j);
    }
    return l;
  }

  public int cascade(int m, int k, int i) {
    if (!in(m, 1, 1000) || !in(k, 1, 6) || i < 0) return -1;
    List<Integer> l = cascadeOf(m, k);
    return i < l.size() ? l.get(i) : -2;
  }

  public int least(int m, int k) {
    if (!in(m, 1, 1000) || !in(k, 1, 6)) return -1;
    long sum = 0;
    int j = k - 1;
    for (int a : cascadeOf(m, k)) sum += choose(a, j--);
    return (int) sum;
  }

  private String pairs(int set) {
    int[] with = new int[n];
    Arrays.fill(with, -1);
    for (int i = 0; i < n; i++) {
      if ((set >> i & 1) == 0) continue;
      for (int j = i - 1; j >= 0; j--) {
        if ((set >> j & 1) == 0 && with[j] < 0) {
          with[j] = i;
          with[i] = j;
          break;
        }
      }
    }
    return Arrays.toString(with);
  }

  public int chain(int set, int which) {
    if (!s(set) || !in(which, 0, 2)) return -1;
    Map<String, TreeSet<Integer>> chains = new TreeMap<>();
    for (int u = 0; u < all; u++) chains.computeIfAbsent(pairs(u), x -> new TreeSet<>()).add(u);
    TreeSet<Integer> own = chains.get(pairs(set));
    if (which == 1) return own.first();
    if (which == 2) return own.size();
    int number = 0;
    for (TreeSet<Integer> c : chains.values()) if (c.first() < own.first()) number++;
    return number;
  }

  public int ring(int place, int ring, int k) {
    if (!p(place) || order(ring) == null || !in(k, 1, n - 1)) return -1;
    if (fam(place) != 0) return fam(place);
    int found = 0;
    for (int i = 0; i < n; i++) {
      int u = 0;
      for (int j = 0; j < k; j++) u |= 1 << order(ring)[(i + j) % n];
      if (f(place).sets.contains(u)) found++;
    }
    return found;
  }

  public long weight(int place, int a, int b) {
    if (!p(place) || !in(b, 1, 9) || !in(a, 0, b)) return -1;
    if (fam(place) != 0) return fam(place);
    long sum = 0;
    for (int o : f(place).sets) {
      long w = 1;
      for (int i = 0; i < n; i++) w *= (o >> i & 1) == 1 ? a : b - a;
      sum += w;
    }
    return sum;
  }

  public int matters(int place, int thing) {
    if (!p(place) || !in(thing, 0, n - 1)) return -1;
    if (fam(place) != 0) return fam(place);
    int found = 0;
    for (int u = 0; u < all; u++) {
      if ((u >> thing & 1) == 1) continue;
      if (f(place).sets.contains(u) != f(place).sets.contains(u | 1 << thing)) found++;
    }
    return found;
  }

  public int product(int place, int other) {
    if (!p(place) || !p(other)) return -1;
    if (fams(place, other) != 0) return fams(place, other);
    TreeSet<Integer> both = new TreeSet<>(f(place).sets);
    both.retainAll(f(other).sets);
    return both.size() * all - f(place).sets.size() * f(other).sets.size();
  }

  // ---- looked for

  private boolean flowers(List<Integer> of, int from, int wanted, List<Integer> found) {
    for (int i = 0; i < found.size(); i++) {
      for (int j = i + 1; j < found.size(); j++) {
        if ((found.get(i) & found.get(j)) != (found.get(0) & found.get(1))) return false;
      }
    }
    if (found.size() == wanted) return true;
    for (int i = from; i < of.size(); i++) {
      found.add(of.get(i));
      if (flowers(of, i + 1, wanted, found)) return true;
      found.remove(found.size() - 1);
    }
    return false;
  }

  public int flower(int place, int p) {
    if (!p(place) || !in(p, 2, 5)) return -1;
    if (fam(place) != 0) return fam(place);
    List<Integer> found = new ArrayList<>();
    if (!flowers(new ArrayList<>(f(place).sets), 0, p, found)) return -2;
    petals = found;
    return found.get(0) & found.get(1);
  }

  public int petal(int i) {
    return in(i, 0, petals.size() - 1) ? petals.get(i) : -2;
  }

  public int cover(int place) {
    if (!p(place)) return -1;
    if (fam(place) != 0) return fam(place);
    for (int k = 0; k <= n; k++) {
      for (int c : layer(k)) {
        boolean covers = true;
        for (int o : f(place).sets) if ((o & c) == 0) covers = false;
        if (covers) return c;
      }
    }
    return -2;
  }

  private int mostLoose(List<Integer> of, int from, int used) {
    int most = 0;
    for (int i = from; i < of.size(); i++) {
      if ((of.get(i) & used) == 0) most = Math.max(most, 1 + mostLoose(of, i + 1, used | of.get(i)));
    }
    return most;
  }

  public int loose(int place) {
    if (!p(place)) return -1;
    if (fam(place) != 0) return fam(place);
    return mostLoose(new ArrayList<>(f(place).sets), 0, 0);
  }

  private boolean shatters(TreeSet<Integer> x, int s) {
    for (int u = 0; u < all; u++) {
      if (!within(u, s)) continue;
      boolean got = false;
      for (int o : x) if ((o & s) == u) got = true;
      if (!got) return false;
    }
    return true;
  }

  public int shattered(int place, int set) {
    if (!p(place) || !in(set, -1, all - 1)) return -1;
    if (fam(place) != 0) return fam(place);
    if (set >= 0) return shatters(f(place).sets, set) ? 1 : 0;
    int found = 0;
    for (int u = 0; u < all; u++) if (shatters(f(place).sets, u)) found++;
    return found;
  }

  /** All families of a layer, as bits over its sets; of two as great the one with the lowest bit not in both. */
  private TreeSet<Integer> greatestOf(int k, int t) {
    List<Integer> l = layer(k);
    boolean[] meets = new boolean[1 << l.size()];
    meets[0] = true;
    int best = 0;
    for (int m = 1; m < meets.length; m++) {
      int top = 31 - Integer.numberOfLeadingZeros(m);
      meets[m] = meets[m - (1 << top)];
      for (int i = 0; i < top && meets[m]; i++) {
        if ((m >> i & 1) == 1 && size(l.get(i) & l.get(top)) < t) meets[m] = false;
      }
      if (!meets[m]) continue;
      int unlike = m ^ best;
      boolean ahead = (m & unlike & -unlike) != 0;
      if (size(m) > size(best) || size(m) == size(best) && ahead) best = m;
    }
    TreeSet<Integer> y = new TreeSet<>();
    for (int i = 0; i < l.size(); i++) if ((best >> i & 1) == 1) y.add(l.get(i));
    return y;
  }

  public int greatest(int k, int t, int to) {
    if (!in(k, 1, n) || !in(t, 1, k) || !p(to)) return -1;
    return comes(to, 4, k, GREATEST.computeIfAbsent(n + " " + k + " " + t, x -> greatestOf(k, t)));
  }

  /** Counts the turns in rising order of what 0, 1, .. become; stops at the first if only that is asked for. */
  private int turnsFrom(TreeSet<Integer> x, TreeSet<Integer> y, int[] d, int told, int[] firstOne) {
    if (told == n) {
      if (!turnAll(x, d).equals(y)) return 0;
      if (firstOne != null) {
        for (int i = n - 1; i >= 0; i--) firstOne[0] = firstOne[0] * 8 + d[i];
      }
      return 1;
    }
    int found = 0;
    for (int thing = 0; thing < n; thing++) {
      boolean used = false;
      for (int i = 0; i < told; i++) if (d[i] == thing) used = true;
      if (used) continue;
      d[told] = thing;
      found += turnsFrom(x, y, d, told + 1, firstOne);
      if (firstOne != null && found > 0) return found;
    }
    return found;
  }

  public int same(int place, int other) {
    if (!p(place) || !p(other)) return -1;
    if (fams(place, other) != 0) return fams(place, other);
    int[] one = new int[1];
    return turnsFrom(f(place).sets, f(other).sets, new int[n], 0, one) > 0 ? one[0] : -2;
  }

  public int turns(int place) {
    if (!p(place)) return -1;
    if (fam(place) != 0) return fam(place);
    return turnsFrom(f(place).sets, f(place).sets, new int[n], 0, null);
  }

  // ---- rows

  public int row(int place, int sort, int m) {
    if (!p(place) || !in(sort, 6, 8) || m > 64) return -1;
    if (m < 0) return -14;
    shelf[place] = new Row(sort, m);
    return 0;
  }

  public int put(int place, int i, long v) {
    if (!p(place)) return -1;
    if (rowAt(place) != 0) return rowAt(place);
    Row r = (Row) shelf[place];
    if (!in(i, 0, r.v.length - 1)) return -13;
    if (r.sort == 6) r.v[i] = (byte) v;
    if (r.sort == 7) r.v[i] = (int) v;
    if (r.sort == 8) r.v[i] = v;
    return 0;
  }

  public long element(int place, int i) {
    if (!p(place)) throw new IllegalArgumentException();
    if (rowAt(place) != 0) throw new IllegalStateException();
    Row r = (Row) shelf[place];
    if (!in(i, 0, r.v.length - 1)) throw new IllegalStateException();
    return r.v[i];
  }

  public int copy(int place, int i, int other, int j, int m) {
    if (!p(place) || !p(other)) return -1;
    if (shelf[place] == null || shelf[other] == null) return -11;
    if (!(shelf[place] instanceof Row) || !(shelf[other] instanceof Row)) return -12;
    Row a = (Row) shelf[place];
    Row b = (Row) shelf[other];
    if (a.sort != b.sort) return -12;
    if (m < 0 || i < 0 || j < 0) return -13;
    if ((long) i + m > a.v.length || (long) j + m > b.v.length) return -13;
    long[] before = a.v.clone();
    for (int q = 0; q < m; q++) b.v[j + q] = before[i + q];
    return m;
  }

  public int take(int place, int family) {
    if (!p(place) || !p(family)) return -1;
    if (rowAt(place) != 0) return rowAt(place);
    if (fam(family) != 0) return fam(family);
    int taken = 0;
    for (long v : ((Row) shelf[place]).v) {
      if (v < 0 || v >= all || add(family, (int) v) < 0) return taken;
      taken++;
    }
    return taken;
  }

  public int heft(int place) {
    if (!p(place)) return -1;
    if (fam(place) != 0) return fam(place);
    Family x = f(place);
    int heft = x.sets.size() + 10;
    if (x.kind == 1 || x.kind == 4) heft += 100;
    if (x.kind == 4) heft *= 2;
    if (x.kind == 2 || x.kind == 5) heft += x.t;
    if (x.kind == 5) heft += x.partner.size();
    if (x.kind == 3) heft += 1000;
    return heft;
  }

  public int toss(int place) {
    if (!p(place)) return -1;
    if (fam(place) != 0) return fam(place);
    int kind = f(place).kind;
    return kind == 2 || kind == 4 || kind == 5 ? f(place).t : -15;
  }
}
