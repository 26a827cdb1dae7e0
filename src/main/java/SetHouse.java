/**
 * A house of families of sets. A FAMILY is one long: bit s is 1 if SET s is in it,
 * since there are at most 64 SETS; so most calls are a few shifts and make no objects.
 */
public final class SetHouse {
    private static final int OUT_OF_RANGE = -1;
    private static final int NO_SUCH_ONE = -2;
    private static final int KIND_BROKEN = -3;
    private static final int HOLDS_NOTHING = -11;
    private static final int HOLDS_OTHER = -12;
    private static final int NOT_IN_ROW = -13;
    private static final int SIZE_BELOW_ZERO = -14;
    private static final int NO_FAILURE = -15;
    private static final int FINE = 0;

    private static final int NOTHING = -2;
    private static final int FREE = 0;
    private static final int APART = 1;
    private static final int MEET = 2;
    private static final int DOWN = 3;
    private static final int LAYER = 4;
    private static final int CROSS = 5;
    private static final int BYTES = 6;
    private static final int INTS = 7;
    private static final int LONGS = 8;

    /** What functions that look for a SET, a CLASH or a TURN answer where there is none. */
    private static final int NONE = -2;

    private static final int PLACES = 16;
    private static final int MOST_THINGS = 6;
    private static final int MOST_SETS = 64;
    private static final int MOST_NUMBERS = 64;
    private static final int SIZES = MOST_THINGS + 1;

    private final int n;
    private final int all;
    private final Place[] shelf;
    private final long[] layers;
    private final Seeker seeker;
    private int latestClash;

    public SetHouse(int things) {
        n = 3 + Math.floorMod(things, 4);
        all = 1 << n;
        shelf = new Place[PLACES];
        for (int i = 0; i < PLACES; i++) {
            shelf[i] = new Place();
        }
        layers = new long[SIZES];
        for (int s = 0; s < all; s++) {
            layers[Integer.bitCount(s)] |= 1L << s;
        }
        seeker = new Seeker();
        latestClash = NONE;
    }

    // ---- families

    public int make(int place, int kind, int t) {
        if (!isPlace(place) || !isKind(kind, t)) {
            return OUT_OF_RANGE;
        }
        keep(place, kind, t, 0L);
        return FINE;
    }

    public int cross(int place, int partner, int t) {
        int refusal = familyRefusal(partner, isPlace(place) && t >= 0 && t <= n);
        if (refusal != FINE) {
            return refusal;
        }
        shelf[place].becomeFamily(CROSS, t, 0L, shelf[partner].sets);
        return FINE;
    }

    public int add(int place, int set) {
        int refusal = familyRefusal(place, isSet(set));
        if (refusal != FINE) {
            return refusal;
        }
        if (!comes(shelf[place], set)) {
            return KIND_BROKEN;
        }
        return Heap.size(shelf[place].sets);
    }

    public int drop(int place, int set) {
        int refusal = familyRefusal(place, isSet(set));
        if (refusal != FINE) {
            return refusal;
        }
        Place family = shelf[place];
        if (!Heap.holdsSet(family.sets, set)) {
            return NO_SUCH_ONE;
        }
        int clash = Kinds.goingClash(family, set);
        if (clash != NONE) {
            latestClash = clash;
            return KIND_BROKEN;
        }
        family.sets &= ~(1L << set);
        return Heap.size(family.sets);
    }

    public int clash() {
        return latestClash;
    }

    public int empty(int place) {
        if (!isPlace(place)) {
            return OUT_OF_RANGE;
        }
        int held = shelf[place].holds == NOTHING ? 0 : 1;
        shelf[place].becomeNothing();
        return held;
    }

    public int holds(int place) {
        return isPlace(place) ? shelf[place].holds : OUT_OF_RANGE;
    }

    public int count(int place, int what) {
        int refusal = familyRefusal(place, what >= 0 && what <= 9);
        if (refusal != FINE) {
            return refusal;
        }
        Place family = shelf[place];
        switch (what) {
            case 0:
                return Heap.size(family.sets);
            case 1:
                return Kinds.hasNumber(family.holds) ? family.least : NONE;
            case 2:
                return family.holds == CROSS ? Heap.size(family.partner) : NONE;
            default:
                return Heap.size(family.sets & layers[what - 3]);
        }
    }

    public int has(int place, int set) {
        int refusal = familyRefusal(place, isSet(set));
        if (refusal != FINE) {
            return refusal;
        }
        return Heap.holdsSet(shelf[place].sets, set) ? 1 : 0;
    }

    public int set(int place, int i) {
        int refusal = familyRefusal(place, i >= 0);
        if (refusal != FINE) {
            return refusal;
        }
        return Heap.setAt(shelf[place].sets, i);
    }

    public int is(int place, int kind, int t) {
        int refusal = familyRefusal(place, isKind(kind, t));
        if (refusal != FINE) {
            return refusal;
        }
        int clash = Kinds.familyClash(shelf[place].sets, kind, t);
        if (clash == NONE) {
            return 1;
        }
        latestClash = clash;
        return 0;
    }

    // ---- made out of others; they come to a PLACE: how many SETS there are

    public int shadow(int place, int to) {
        int refusal = familyRefusal(place, isPlace(to));
        if (refusal != FINE) {
            return refusal;
        }
        return keepBeside(place, -1, Heap.oneLess(shelf[place].sets), to);
    }

    public int up(int place, int to) {
        int refusal = familyRefusal(place, isPlace(to));
        if (refusal != FINE) {
            return refusal;
        }
        return keepBeside(place, 1, Heap.oneMore(shelf[place].sets, n), to);
    }

    public int closed(int place, boolean top, int to) {
        int refusal = familyRefusal(place, isPlace(to));
        if (refusal != FINE) {
            return refusal;
        }
        long sets = shelf[place].sets;
        if (top) {
            return keep(to, FREE, 0, Heap.allAbove(sets, n));
        }
        return keep(to, DOWN, 0, Heap.allBelow(sets));
    }

    public int ends(int place, boolean greatest, int to) {
        int refusal = familyRefusal(place, isPlace(to));
        if (refusal != FINE) {
            return refusal;
        }
        long sets = shelf[place].sets;
        long beaten = greatest ? Heap.allBelow(Heap.oneLess(sets)) : Heap.allAbove(Heap.oneMore(sets, n), n);
        return keep(to, APART, 0, sets & ~beaten);
    }

    public int mix(int place, int other, int how, int to) {
        int refusal = familiesRefusal(place, other, how >= 0 && how <= 5 && isPlace(to));
        if (refusal != FINE) {
            return refusal;
        }
        return keep(to, FREE, 0, Heap.mixed(shelf[place].sets, shelf[other].sets, how));
    }

    public int rest(int place, boolean within, int to) {
        int refusal = familyRefusal(place, isPlace(to));
        if (refusal != FINE) {
            return refusal;
        }
        long sets = shelf[place].sets;
        return keep(to, FREE, 0, within ? Heap.lacking(sets, n) : Heap.within(all - 1) & ~sets);
    }

    public int trace(int place, int s, int to) {
        int refusal = familyRefusal(place, isSet(s) && isPlace(to));
        if (refusal != FINE) {
            return refusal;
        }
        return keep(to, FREE, 0, Heap.cutTo(shelf[place].sets, s));
    }

    public int turned(int place, int turn, int to) {
        int refusal = familyRefusal(place, Orders.isOrder(turn, n) && isPlace(to));
        if (refusal != FINE) {
            return refusal;
        }
        Place family = shelf[place];
        int kind = family.holds == CROSS ? MEET : family.holds;
        return keep(to, kind, family.least, Orders.turnedBy(family.sets, turn, n));
    }

    public int push(int place, int i, int j) {
        int refusal = familyRefusal(place, isThing(i) && isThing(j) && i != j);
        if (refusal != FINE) {
            return refusal;
        }
        long before = shelf[place].sets;
        long after = Heap.moved(before, i, j);
        keepBeside(place, 0, after, place);
        return Heap.size(after & ~before);
    }

    public int pushed(int place) {
        int refusal = familyRefusal(place, true);
        if (refusal != FINE) {
            return refusal;
        }
        long sets = shelf[place].sets;
        int changes = 0;
        // each change makes the sum of the SETS' numbers less, and that is at most 2016
        for (int round = 0; round < 2100; round++) {
            int before = changes;
            for (int i = 1; i < n; i++) {
                for (int j = 0; j < i; j++) {
                    long after = Heap.moved(sets, i, j);
                    changes += after == sets ? 0 : 1;
                    sets = after;
                }
            }
            if (changes == before) {
                break;
            }
        }
        keepBeside(place, 0, sets, place);
        return changes;
    }

    public int first(int k, int m, int to) {
        if (!isSize(k) || !isPlace(to) || m < 0 || m > Heap.size(layers[k])) {
            return OUT_OF_RANGE;
        }
        int end = m == 0 ? 0 : Heap.setAt(layers[k], m - 1) + 1;
        return keep(to, LAYER, k, layers[k] & Heap.below(end));
    }

    // ---- numbers

    public int sum(int place) {
        int refusal = familyRefusal(place, true);
        if (refusal != FINE) {
            return refusal;
        }
        int sum = 0;
        for (int k = 0; k <= n; k++) {
            sum += Heap.size(shelf[place].sets & layers[k]) * Numbers.factorial(k) * Numbers.factorial(n - k);
        }
        return sum;
    }

    public int rank(int set) {
        if (!isSet(set)) {
            return OUT_OF_RANGE;
        }
        return Heap.size(layers[Integer.bitCount(set)] & Heap.below(set));
    }

    public int ranked(int k, int rank) {
        if (!isSize(k) || rank < 0) {
            return OUT_OF_RANGE;
        }
        return Heap.setAt(layers[k], rank);
    }

    public int cascade(int m, int k, int i) {
        if (!Numbers.cascades(m, k) || i < 0) {
            return OUT_OF_RANGE;
        }
        return Numbers.cascadeNumber(m, k, i);
    }

    public int least(int m, int k) {
        return Numbers.cascades(m, k) ? Numbers.leastShadow(m, k) : OUT_OF_RANGE;
    }

    public int chain(int set, int which) {
        if (!isSet(set) || which < 0 || which > 2) {
            return OUT_OF_RANGE;
        }
        int bottom = Numbers.matchedOnes(set, n);
        if (which == 1) {
            return bottom;
        }
        if (which == 2) {
            return n - 2 * Integer.bitCount(bottom) + 1;
        }
        int number = 0;
        for (int s = 0; s < bottom; s++) {
            number += Numbers.matchedOnes(s, n) == s ? 1 : 0;
        }
        return number;
    }

    public int ring(int place, int ring, int k) {
        int refusal = familyRefusal(place, Orders.isOrder(ring, n) && k >= 1 && k < n);
        if (refusal != FINE) {
            return refusal;
        }
        int found = 0;
        for (int start = 0; start < n; start++) {
            found += Heap.holdsSet(shelf[place].sets, Orders.stretch(ring, start, k, n)) ? 1 : 0;
        }
        return found;
    }

    public long weight(int place, int a, int b) {
        int refusal = familyRefusal(place, b >= 1 && b <= 9 && a >= 0 && a <= b);
        if (refusal != FINE) {
            return refusal;
        }
        long sum = 0;
        for (int k = 0; k <= n; k++) {
            sum += Heap.size(shelf[place].sets & layers[k]) * Numbers.power(a, k) * Numbers.power(b - a, n - k);
        }
        return sum;
    }

    public int matters(int place, int thing) {
        int refusal = familyRefusal(place, isThing(thing));
        if (refusal != FINE) {
            return refusal;
        }
        long sets = shelf[place].sets;
        return Heap.size(Heap.lessThing(sets, thing) ^ Heap.lackingThing(sets, thing));
    }

    public int product(int place, int other) {
        int refusal = familiesRefusal(place, other, true);
        if (refusal != FINE) {
            return refusal;
        }
        long one = shelf[place].sets;
        long two = shelf[other].sets;
        return Heap.size(one & two) * all - Heap.size(one) * Heap.size(two);
    }

    // ---- looked for

    public int flower(int place, int p) {
        int refusal = familyRefusal(place, p >= 2 && p <= Seeker.MOST_PETALS);
        if (refusal != FINE) {
            return refusal;
        }
        return seeker.findFlower(shelf[place].sets, p);
    }

    public int petal(int i) {
        return seeker.petalAt(i);
    }

    public int cover(int place) {
        int refusal = familyRefusal(place, true);
        if (refusal != FINE) {
            return refusal;
        }
        long sets = shelf[place].sets;
        for (int k = 0; k <= n; k++) {
            for (int c = Heap.next(layers[k], 0); c < all; c = Heap.next(layers[k], c + 1)) {
                if ((sets & Heap.within(all - 1 - c)) == 0) {
                    return c;
                }
            }
        }
        return NO_SUCH_ONE;
    }

    public int loose(int place) {
        int refusal = familyRefusal(place, true);
        if (refusal != FINE) {
            return refusal;
        }
        return seeker.mostDisjoint(shelf[place].sets, all);
    }

    public int shattered(int place, int set) {
        int refusal = familyRefusal(place, set == -1 || isSet(set));
        if (refusal != FINE) {
            return refusal;
        }
        long sets = shelf[place].sets;
        if (set >= 0) {
            return Heap.shatters(sets, set) ? 1 : 0;
        }
        int found = 0;
        for (int s = 0; s < all; s++) {
            found += Heap.shatters(sets, s) ? 1 : 0;
        }
        return found;
    }

    public int greatest(int k, int t, int to) {
        if (k < 1 || k > n || t < 1 || t > k || !isPlace(to)) {
            return OUT_OF_RANGE;
        }
        return keep(to, LAYER, k, seeker.greatestMeeting(layers[k], k, t));
    }

    public int same(int place, int other) {
        int refusal = familiesRefusal(place, other, true);
        if (refusal != FINE) {
            return refusal;
        }
        long one = shelf[place].sets;
        long two = shelf[other].sets;
        if (Heap.size(one) != Heap.size(two)) {
            return NO_SUCH_ONE;
        }
        return Orders.leastTurn(one, two, n);
    }

    public int turns(int place) {
        int refusal = familyRefusal(place, true);
        if (refusal != FINE) {
            return refusal;
        }
        return Orders.countTurns(shelf[place].sets, n);
    }

    // ---- rows

    public int row(int place, int sort, int m) {
        if (!isPlace(place) || sort < BYTES || sort > LONGS || m > MOST_NUMBERS) {
            return OUT_OF_RANGE;
        }
        if (m < 0) {
            return SIZE_BELOW_ZERO;
        }
        shelf[place].becomeRow(sort, m);
        return FINE;
    }

    public int put(int place, int i, long v) {
        int refusal = rowRefusal(place);
        if (refusal != FINE) {
            return refusal;
        }
        Place row = shelf[place];
        if (i < 0 || i >= row.length) {
            return NOT_IN_ROW;
        }
        row.numbers[i] = row.holds == BYTES ? (byte) v : row.holds == INTS ? (int) v : v;
        return FINE;
    }

    public long element(int place, int i) throws IllegalArgumentException, IllegalStateException {
        if (!isPlace(place)) {
            throw new IllegalArgumentException("no such PLACE");
        }
        Place row = shelf[place];
        if (!row.isRow()) {
            throw new IllegalStateException("no ROW there");
        }
        if (i < 0 || i >= row.length) {
            throw new IllegalStateException("the ROW has no such place");
        }
        return row.numbers[i];
    }

    public int copy(int place, int i, int other, int j, int m) {
        if (!isPlace(place) || !isPlace(other)) {
            return OUT_OF_RANGE;
        }
        Place from = shelf[place];
        Place to = shelf[other];
        if (from.holds == NOTHING || to.holds == NOTHING) {
            return HOLDS_NOTHING;
        }
        if (!from.isRow() || to.holds != from.holds) {
            return HOLDS_OTHER;
        }
        if (!from.hasStretch(i, m) || !to.hasStretch(j, m)) {
            return NOT_IN_ROW;
        }
        System.arraycopy(from.numbers, i, to.numbers, j, m);
        return m;
    }

    public int take(int place, int family) {
        if (!isPlace(place) || !isPlace(family)) {
            return OUT_OF_RANGE;
        }
        int refusal = rowRefusal(place);
        if (refusal == FINE) {
            refusal = familyRefusal(family, true);
        }
        if (refusal != FINE) {
            return refusal;
        }
        Place row = shelf[place];
        for (int i = 0; i < row.length; i++) {
            long number = row.numbers[i];
            if (number < 0 || number >= all || !comes(shelf[family], (int) number)) {
                return i;
            }
        }
        return row.length;
    }

    public int heft(int place) {
        int refusal = familyRefusal(place, true);
        if (refusal != FINE) {
            return refusal;
        }
        return Kinds.heftOf(shelf[place]);
    }

    public int toss(int place) {
        int refusal = familyRefusal(place, true);
        if (refusal != FINE) {
            return refusal;
        }
        try {
            Kinds.fail(shelf[place]);
        } catch (IllegalStateException failure) {
            return shelf[place].least;
        }
        return NO_FAILURE;
    }

    // ---- what the calls share

    private boolean isPlace(int place) {
        return place >= 0 && place < PLACES;
    }

    private boolean isSet(int set) {
        return set >= 0 && set < all;
    }

    private boolean isThing(int thing) {
        return thing >= 0 && thing < n;
    }

    private boolean isSize(int k) {
        return k >= 0 && k <= n;
    }

    /** Whether a FAMILY can be made of a KIND with t; a CROSS can't without its PARTNER. */
    private boolean isKind(int kind, int t) {
        return kind >= FREE && kind <= LAYER && (!Kinds.hasNumber(kind) || isSize(t));
    }

    /** FINE, or why a call that asks for a FAMILY at a PLACE is refused. */
    private int familyRefusal(int place, boolean inRange) {
        if (!inRange || !isPlace(place)) {
            return OUT_OF_RANGE;
        }
        if (shelf[place].holds == NOTHING) {
            return HOLDS_NOTHING;
        }
        return shelf[place].isRow() ? HOLDS_OTHER : FINE;
    }

    private int familiesRefusal(int place, int other, boolean inRange) {
        int refusal = familyRefusal(place, inRange && isPlace(other));
        return refusal == FINE ? familyRefusal(other, true) : refusal;
    }

    private int rowRefusal(int place) {
        if (!isPlace(place)) {
            return OUT_OF_RANGE;
        }
        if (shelf[place].holds == NOTHING) {
            return HOLDS_NOTHING;
        }
        return shelf[place].isRow() ? FINE : HOLDS_OTHER;
    }

    /** Whether a SET came to a FAMILY (or was there); if not, the CLASH is told. */
    private boolean comes(Place family, int set) {
        int clash = Kinds.comingClash(family, set);
        if (clash != NONE) {
            latestClash = clash;
            return false;
        }
        family.sets |= 1L << set;
        return true;
    }

    /** A FAMILY comes to a PLACE: how many SETS it has. */
    private int keep(int to, int kind, int t, long sets) {
        shelf[to].becomeFamily(kind, t, sets, 0L);
        return Heap.size(sets);
    }

    /** As keep(), out of another one: of a LAYER a LAYER whose SIZE is by so much more, else FREE. */
    private int keepBeside(int place, int more, long sets, int to) {
        int size = shelf[place].least + more;
        boolean layered = shelf[place].holds == LAYER && isSize(size);
        return keep(to, layered ? LAYER : FREE, layered ? size : 0, sets);
    }

    /** A PLACE of THE SHELF, with room for all that it may hold, so that no call makes objects. */
    private static final class Place {
        int holds = NOTHING;
        int least;
        long sets;
        long partner;
        int length;
        final long[] numbers = new long[MOST_NUMBERS];

        void becomeNothing() {
            holds = NOTHING;
        }

        void becomeFamily(int kind, int t, long family, long partnerSets) {
            holds = kind;
            least = t;
            sets = family;
            partner = partnerSets;
        }

        void becomeRow(int sort, int m) {
            holds = sort;
            length = m;
            for (int i = 0; i < MOST_NUMBERS; i++) {
                numbers[i] = 0L;
            }
        }

        boolean isRow() {
            return holds >= BYTES;
        }

        boolean hasStretch(int i, int m) {
            return i >= 0 && m >= 0 && i <= length && m <= length - i;
        }
    }

    /** What KINDS allow: each function that looks for a CLASH answers NONE where there is none. */
    private static final class Kinds {
        static boolean hasNumber(int kind) {
            return kind == MEET || kind == LAYER || kind == CROSS;
        }

        static int comingClash(Place family, int set) {
            long sets = family.sets;
            if (Heap.holdsSet(sets, set)) {
                return NONE;
            }
            switch (family.holds) {
                case APART:
                    return Heap.leastOf(sets & (Heap.within(set) | Heap.around(set)));
                case MEET:
                    return meetClash(sets, set, family.least);
                case DOWN:
                    return Heap.leastOf(Heap.within(set) & ~sets & ~(1L << set));
                case LAYER:
                    return Integer.bitCount(set) == family.least ? NONE : set;
                case CROSS:
                    int own = meetClash(sets, set, family.least);
                    return own == NONE ? firstFarFrom(family.partner, set, family.least) : own;
                default:
                    return NONE;
            }
        }

        static int goingClash(Place family, int set) {
            if (family.holds != DOWN) {
                return NONE;
            }
            return Heap.leastOf(family.sets & Heap.around(set) & ~(1L << set));
        }

        private static int meetClash(long sets, int set, int t) {
            return Integer.bitCount(set) < t ? set : firstFarFrom(sets, set, t);
        }

        /** The first of some SETS that has less than t things in common with one. */
        private static int firstFarFrom(long sets, int set, int t) {
            for (int s = Heap.next(sets, 0); s < MOST_SETS; s = Heap.next(sets, s + 1)) {
                if (Integer.bitCount(s & set) < t) {
                    return s;
                }
            }
            return NONE;
        }

        /** The first two SETS because of which a FAMILY is not of a KIND, as clash() tells them. */
        static int familyClash(long sets, int kind, int t) {
            switch (kind) {
                case APART:
                    return apartClash(sets);
                case MEET:
                    return meetingClash(sets, t);
                case DOWN:
                    return downClash(sets);
                case LAYER:
                    return layerClash(sets, t);
                default:
                    return NONE;
            }
        }

        private static int pair(int lesser, int other) {
            return lesser + MOST_SETS * other;
        }

        private static int apartClash(long sets) {
            for (int s = Heap.next(sets, 0); s < MOST_SETS; s = Heap.next(sets, s + 1)) {
                int other = Heap.leastOf(sets & Heap.around(s) & ~(1L << s));
                if (other != NONE) {
                    return pair(s, other);
                }
            }
            return NONE;
        }

        private static int meetingClash(long sets, int t) {
            for (int s = Heap.next(sets, 0); s < MOST_SETS; s = Heap.next(sets, s + 1)) {
                int other = meetClash(sets & ~Heap.below(s), s, t);
                if (other != NONE) {
                    return pair(s, other);
                }
            }
            return NONE;
        }

        /** DOWN alone tells the other one first: the first SET that lacks something, then the first that it lacks. */
        private static int downClash(long sets) {
            for (int s = Heap.next(sets, 0); s < MOST_SETS; s = Heap.next(sets, s + 1)) {
                int lacking = Heap.leastOf(Heap.within(s) & ~sets);
                if (lacking != NONE) {
                    return pair(lacking, s);
                }
            }
            return NONE;
        }

        private static int layerClash(long sets, int t) {
            for (int s = Heap.next(sets, 0); s < MOST_SETS; s = Heap.next(sets, s + 1)) {
                if (Integer.bitCount(s) != t) {
                    return pair(s, s);
                }
            }
            return NONE;
        }

        static int heftOf(Place family) {
            int free = Heap.size(family.sets) + 10;
            switch (family.holds) {
                case APART:
                    return free + 100;
                case LAYER:
                    return 2 * (free + 100);
                case MEET:
                    return free + family.least;
                case CROSS:
                    return free + family.least + Heap.size(family.partner);
                case DOWN:
                    return free + 1000;
                default:
                    return free;
            }
        }

        static void fail(Place family) {
            if (hasNumber(family.holds)) {
                throw new IllegalStateException("the FAILURE of a FAMILY that has a t");
            }
        }
    }

    /** FAMILIES as longs. A thing i that comes to a SET makes its number, and so its bit's place, 2^i more. */
    private static final class Heap {
        /** For each thing, all SETS that it is not in. */
        private static final long[] WITHOUT = {
            0x5555555555555555L, 0x3333333333333333L, 0x0F0F0F0F0F0F0F0FL,
            0x00FF00FF00FF00FFL, 0x0000FFFF0000FFFFL, 0x00000000FFFFFFFFL,
        };

        static int size(long sets) {
            return Long.bitCount(sets);
        }

        static boolean holdsSet(long sets, int set) {
            return (sets >>> set & 1L) != 0;
        }

        /** The first SET that is not below a number; MOST_SETS if there is none. */
        static int next(long sets, int from) {
            long left = sets & ~below(from);
            return Long.bitCount((left & -left) - 1L);
        }

        static int leastOf(long sets) {
            return sets == 0 ? NONE : next(sets, 0);
        }

        static int setAt(long sets, int i) {
            int s = next(sets, 0);
            for (int passed = 0; passed < i && s < MOST_SETS; passed++) {
                s = next(sets, s + 1);
            }
            return s < MOST_SETS ? s : NONE;
        }

        /** All SETS whose numbers are below one. */
        static long below(int end) {
            return end >= MOST_SETS ? -1L : (1L << end) - 1L;
        }

        /** All SETS within one, itself too. */
        static long within(int set) {
            long sets = 1L;
            for (int i = 0; i < MOST_THINGS; i++) {
                if ((set >> i & 1) != 0) {
                    sets |= sets << (1 << i);
                }
            }
            return sets;
        }

        /** All SETS (of six things) that one lies within, itself too. */
        static long around(int set) {
            return within(MOST_SETS - 1 - set) << set;
        }

        static long lackingThing(long sets, int thing) {
            return sets & WITHOUT[thing];
        }

        /** Those that have a thing, without it. */
        static long lessThing(long sets, int thing) {
            return sets >>> (1 << thing) & WITHOUT[thing];
        }

        /** Those that lack a thing, with it. */
        static long moreThing(long sets, int thing) {
            return (sets & WITHOUT[thing]) << (1 << thing);
        }

        static long oneLess(long sets) {
            long found = 0L;
            for (int i = 0; i < MOST_THINGS; i++) {
                found |= lessThing(sets, i);
            }
            return found;
        }

        static long oneMore(long sets, int n) {
            long found = 0L;
            for (int i = 0; i < n; i++) {
                found |= moreThing(sets, i);
            }
            return found;
        }

        static long allBelow(long sets) {
            long found = sets;
            for (int i = 0; i < MOST_THINGS; i++) {
                found |= lessThing(found, i);
            }
            return found;
        }

        static long allAbove(long sets, int n) {
            long found = sets;
            for (int i = 0; i < n; i++) {
                found |= moreThing(found, i);
            }
            return found;
        }

        static long lacking(long sets, int n) {
            long found = sets;
            for (int i = 0; i < n; i++) {
                found = lessThing(found, i) | moreThing(found, i);
            }
            return found;
        }

        /** What SETS have in common with one. */
        static long cutTo(long sets, int set) {
            long found = sets;
            for (int i = 0; i < MOST_THINGS; i++) {
                if ((set >> i & 1) == 0) {
                    found = lackingThing(found, i) | lessThing(found, i);
                }
            }
            return found;
        }

        /** What SETS or one have. */
        static long joinedTo(long sets, int set) {
            long found = sets;
            for (int i = 0; i < MOST_THINGS; i++) {
                if ((set >> i & 1) != 0) {
                    found = found & ~WITHOUT[i] | moreThing(found, i);
                }
            }
            return found;
        }

        static long mixed(long one, long two, int how) {
            switch (how) {
                case 0:
                    return one & two;
                case 1:
                    return one | two;
                case 2:
                    return one & ~two;
                case 3:
                    return one ^ two;
                default:
                    return mixedInPairs(one, two, how == 4);
            }
        }

        private static long mixedInPairs(long one, long two, boolean common) {
            long found = 0L;
            for (int s = next(two, 0); s < MOST_SETS; s = next(two, s + 1)) {
                found |= common ? cutTo(one, s) : joinedTo(one, s);
            }
            return found;
        }

        static boolean shatters(long sets, int set) {
            return cutTo(sets, set) == within(set);
        }

        /** PUSH i to j. */
        static long moved(long sets, int i, int j) {
            long from = sets & ~WITHOUT[i] & WITHOUT[j];
            long came = moreThing(lessThing(from, i), j) & ~sets;
            long went = moreThing(lessThing(came, j), i);
            return sets & ~went | came;
        }

        /** SETS with two things in each other's stead. */
        static long swapped(long sets, int i, int j) {
            if (i == j) {
                return sets;
            }
            long first = sets & ~WITHOUT[i] & WITHOUT[j];
            long second = sets & WITHOUT[i] & ~WITHOUT[j];
            long stay = sets & ~first & ~second;
            return stay | moreThing(lessThing(first, i), j) | moreThing(lessThing(second, j), i);
        }
    }

    /** Orders of things by digits to the base 8: TURNS and RINGS. */
    private static final class Orders {
        static int digit(int order, int i) {
            return order >> (3 * i) & 7;
        }

        static boolean isOrder(int order, int n) {
            if (order < 0 || order >> (3 * n) != 0) {
                return false;
            }
            int seen = 0;
            for (int i = 0; i < n; i++) {
                seen |= 1 << digit(order, i);
            }
            return seen == (1 << n) - 1;
        }

        private static int unturned(int n) {
            int turn = 0;
            for (int i = 0; i < n; i++) {
                turn |= i << (3 * i);
            }
            return turn;
        }

        private static int swapDigits(int order, int i, int j) {
            int unlike = digit(order, i) ^ digit(order, j);
            return i == j ? order : order ^ (unlike << (3 * i)) ^ (unlike << (3 * j));
        }

        static long turnedBy(long sets, int turn, int n) {
            long found = 0L;
            for (int s = Heap.next(sets, 0); s < MOST_SETS; s = Heap.next(sets, s + 1)) {
                int image = 0;
                for (int i = 0; i < n; i++) {
                    image |= (s >> i & 1) << digit(turn, i);
                }
                found |= 1L << image;
            }
            return found;
        }

        static int stretch(int ring, int start, int k, int n) {
            int set = 0;
            for (int i = start; i < start + k; i++) {
                set |= 1 << digit(ring, i < n ? i : i - n);
            }
            return set;
        }

        /** The least TURN that makes of the one FAMILY the other, or NONE. */
        static int leastTurn(long one, long two, int n) {
            return leastTurnFrom(one, two, unturned(n), 0, n);
        }

        /** How many TURNS leave a FAMILY as it is. */
        static int countTurns(long sets, int n) {
            return countTurnsFrom(sets, sets, 0, n);
        }

        /**
         * As leastTurn(), where it is told already what the first things become. The other FAMILY is
         * carried along turned back: its thing i is what i becomes. Swapping the next thing with each
         * later one in turn brings them to it in rising order.
         */
        private static int leastTurnFrom(long one, long two, int turn, int told, int n) {
            if (!agree(one, two, told)) {
                return NONE;
            }
            if (told >= n) {
                return turn;
            }
            long other = two;
            int order = turn;
            for (int i = told; i < n; i++) {
                other = Heap.swapped(other, told, i);
                order = swapDigits(order, told, i);
                int found = leastTurnFrom(one, other, order, told + 1, n);
                if (found != NONE) {
                    return found;
                }
            }
            return NONE;
        }

        private static int countTurnsFrom(long one, long two, int told, int n) {
            if (!agree(one, two, told)) {
                return 0;
            }
            if (told >= n) {
                return 1;
            }
            long other = two;
            int found = 0;
            for (int i = told; i < n; i++) {
                other = Heap.swapped(other, told, i);
                found += countTurnsFrom(one, other, told + 1, n);
            }
            return found;
        }

        /** Whether two FAMILIES have the same SETS of the first things alone, which stay as they are. */
        private static boolean agree(long one, long two, int things) {
            return ((one ^ two) & Heap.below(1 << things)) == 0;
        }
    }

    private static final class Numbers {
        private static final int[] FACTORIALS = {1, 1, 2, 6, 24, 120, 720};
        private static final int MOST_CASCADED = 1000;

        static int factorial(int k) {
            return FACTORIALS[k];
        }

        static long power(int base, int exponent) {
            long power = 1L;
            for (int i = 0; i < exponent; i++) {
                power *= base;
            }
            return power;
        }

        static boolean cascades(int m, int k) {
            return m >= 1 && m <= MOST_CASCADED && k >= 1 && k <= MOST_THINGS;
        }

        private static int choose(int a, int k) {
            int ways = 1;
            for (int i = 1; i <= k; i++) {
                ways = ways * (a - k + i) / i;
            }
            return ways;
        }

        /** The greatest a with C(a, k) at most m. */
        private static int cascadeTop(int m, int k) {
            int ways = 1;
            for (int a = k; a < MOST_CASCADED; a++) {
                ways = ways * (a + 1) / (a + 1 - k);
                if (ways > m) {
                    return a;
                }
            }
            return MOST_CASCADED;
        }

        static int cascadeNumber(int m, int k, int i) {
            int left = m;
            for (int size = k; size >= 1 && left > 0; size--) {
                int a = cascadeTop(left, size);
                if (k - size == i) {
                    return a;
                }
                left -= choose(a, size);
            }
            return NONE;
        }

        static int leastShadow(int m, int k) {
            int left = m;
            int sum = 0;
            for (int size = k; size >= 1 && left > 0; size--) {
                int a = cascadeTop(left, size);
                sum += choose(a, size - 1);
                left -= choose(a, size);
            }
            return sum;
        }

        /** The things of a SET that are matched: the first SET of its CHAIN. */
        static int matchedOnes(int set, int n) {
            int open = 0;
            int matched = 0;
            for (int i = 0; i < n; i++) {
                if ((set >> i & 1) == 0) {
                    open++;
                } else if (open > 0) {
                    open--;
                    matched |= 1 << i;
                }
            }
            return matched;
        }
    }

    /** What is looked for step by step, with the rows that this needs. */
    private static final class Seeker {
        static final int MOST_PETALS = 5;
        /** A LAYER has at most C(6, 3) SETS, and each step down decides of one. */
        private static final int MOST_DEPTH = 20;

        private final int[] petals = new int[MOST_PETALS];
        private final int[] tried = new int[MOST_PETALS];
        private int petalCount;
        private final int[] disjoint = new int[MOST_SETS];
        private final long[] meeting = new long[SIZES * SIZES];

        int petalAt(int i) {
            return i >= 0 && i < petalCount ? petals[i] : NONE;
        }

        int findFlower(long sets, int p) {
            for (int a = Heap.next(sets, 0); a < MOST_SETS; a = Heap.next(sets, a + 1)) {
                tried[0] = a;
                for (int b = Heap.next(sets, a + 1); b < MOST_SETS; b = Heap.next(sets, b + 1)) {
                    tried[1] = b;
                    if (opens(sets, b, 2, p, a & b, a | b)) {
                        keepPetals(p);
                        return a & b;
                    }
                }
            }
            return NONE;
        }

        /** Those above a SET that have just the core in common with the union of the petals so far. */
        private static long fitting(long sets, int above, int core, int union) {
            return sets & ~Heap.below(above + 1) & (Heap.within(MOST_SETS - 1 - union) << core);
        }

        /** Whether petals from an index on can be had out of SETS above one; they are tried[] then. */
        private boolean opens(long sets, int above, int index, int p, int core, int union) {
            if (index >= p || index >= MOST_PETALS) {
                return true;
            }
            // each further one is no core, being above a petal: it needs a thing of its own
            if (MOST_THINGS - Integer.bitCount(union) < p - index) {
                return false;
            }
            long fit = fitting(sets, above, core, union);
            for (int s = Heap.next(fit, 0); s < MOST_SETS; s = Heap.next(fit, s + 1)) {
                tried[index] = s;
                if (opens(fit, s, index + 1, p, core, union | s)) {
                    return true;
                }
            }
            return false;
        }

        private void keepPetals(int p) {
            petalCount = Math.min(p, MOST_PETALS);
            for (int i = 0; i < petalCount; i++) {
                petals[i] = tried[i];
            }
        }

        /** disjoint[m]: the most SETS of which no two share a thing, but for the empty one, within m. */
        int mostDisjoint(long sets, int all) {
            disjoint[0] = 0;
            for (int m = 1; m < all && m < MOST_SETS; m++) {
                int lowest = m & -m;
                int others = m - lowest;
                int most = disjoint[others];
                long usable = sets & (Heap.within(others) << lowest);
                for (int s = Heap.next(usable, 0); s <= m; s = Heap.next(usable, s + 1)) {
                    most = Math.max(most, 1 + disjoint[m - s]);
                }
                disjoint[m] = most;
            }
            return disjoint[all - 1] + (Heap.holdsSet(sets, 0) ? 1 : 0);
        }

        /** Kept once it has been looked for: 0 is none, since one SET alone is a FAMILY. */
        long greatestMeeting(long layer, int k, int t) {
            int index = SIZES * k + t;
            if (meeting[index] == 0) {
                meeting[index] = largest(0L, layer, 0L, t, 0);
            }
            return meeting[index];
        }

        /**
         * The largest FAMILY that has the chosen SETS and others out of the open ones, or the best so
         * far if it is as large. The least open SET is taken ahead of being left: so the first
         * of several that is found is the one that has the least SET that is not in both.
         */
        private static long largest(long chosen, long open, long best, int t, int depth) {
            int size = Heap.size(chosen);
            if (open == 0 || depth > MOST_DEPTH) {
                return size > Heap.size(best) ? chosen : best;
            }
            if (size + Heap.size(open) <= Heap.size(best)) {
                return best;
            }
            int set = Heap.next(open, 0);
            long others = open & (open - 1L);
            long taken = largest(chosen | 1L << set, near(others, set, t), best, t, depth + 1);
            return largest(chosen, others, taken, t, depth + 1);
        }

        /** Those that have at least t things in common with a SET. */
        private static long near(long sets, int set, int t) {
            long found = sets;
            for (int s = Heap.next(sets, 0); s < MOST_SETS; s = Heap.next(sets, s + 1)) {
                if (Integer.bitCount(s & set) < t) {
                    found &= ~(1L << s);
                }
            }
            return found;
        }
    }
}
