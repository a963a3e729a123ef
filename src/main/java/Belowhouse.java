/**
 * Orders of few things: which of them stands below which, the sets that are closed below, and the rows in which each
 * thing stands ahead of all that are above it.
 */
public final class Belowhouse {
    public static final int NONE = -1;
    public static final int REFUSED = -9;

    private static final int ORDERS = 4;
    private static final int MOST_THINGS = 9;
    private static final int MOST_SETS = 1 << MOST_THINGS;
    private static final int GREATEST_VALUE = 1000;

    private final Order[] orders;
    /** An order that is made of two others may go into one of them, so it is made here first. */
    private final Order made;
    private final Chains chains;
    private final RowTable table;
    private final Numbers numbers;
    private final Theorem theorem;

    public Belowhouse() {
        orders = new Order[ORDERS];
        for (int k = 0; k < ORDERS; k++) {
            orders[k] = new Order();
        }
        made = new Order();
        chains = new Chains();
        table = new RowTable();
        numbers = new Numbers();
        theorem = new Theorem();
    }

    // Orders are made.

    public int lay(int order, int many) throws IndexOutOfBoundsException, IllegalArgumentException {
        Order it = orderAt(order);
        refuseOddMany(many);
        int had = it.count;
        it.clearTo(many);
        return had;
    }

    public int chain(int order, int many) throws IndexOutOfBoundsException, IllegalArgumentException {
        Order it = orderAt(order);
        refuseOddMany(many);
        it.clearTo(many);
        it.lineUp();
        return it.pairCount();
    }

    public int add(int order, int value)
            throws IndexOutOfBoundsException, IllegalArgumentException, IllegalStateException {
        Order it = orderAt(order);
        refuseOddValue(value);
        if (it.count >= MOST_THINGS) {
            throw new IllegalStateException("there are 9 things");
        }
        return it.append(value);
    }

    public int drop(int order, int thing) throws IndexOutOfBoundsException {
        Order it = orderWith(order, thing);
        int gone = it.values[thing];
        it.retain(it.all() & ~(1 << thing));
        return gone;
    }

    public int keep(int order, int set) throws IndexOutOfBoundsException, IllegalArgumentException {
        Order it = orderWithSet(order, set);
        int had = it.count;
        it.retain(set);
        return had - it.count;
    }

    public int setValue(int order, int thing, int value) throws IndexOutOfBoundsException, IllegalArgumentException {
        Order it = orderWith(order, thing);
        refuseOddValue(value);
        int had = it.values[thing];
        it.values[thing] = value;
        return had;
    }

    public int put(int order, int low, int high) throws IndexOutOfBoundsException {
        return orderWithBoth(order, low, high).link(low, high);
    }

    public int loose(int order, int low, int high) throws IndexOutOfBoundsException {
        Order it = orderWithBoth(order, low, high);
        if (!it.isNextBelow(low, high)) {
            return REFUSED;
        }
        it.cut(low, high);
        return it.pairCount();
    }

    public int straighten(int order, int place) throws IndexOutOfBoundsException {
        Order it = orderAt(order);
        layOutRow(it, place);
        int had = it.pairCount();
        it.standAs(table.line);
        return it.pairCount() - had;
    }

    public int turn(int order) throws IndexOutOfBoundsException {
        Order it = orderAt(order);
        made.becomeTurned(it);
        it.become(made);
        return it.pairCount();
    }

    public int copy(int order, int into) throws IndexOutOfBoundsException {
        Order from = orderAt(order);
        Order to = orderAt(into);
        to.become(from);
        return to.count;
    }

    public int beside(int one, int other, int into) throws IndexOutOfBoundsException, IllegalStateException {
        return joinInto(one, other, into, false).count;
    }

    public int above(int one, int other, int into) throws IndexOutOfBoundsException, IllegalStateException {
        return joinInto(one, other, into, true).pairCount();
    }

    public int meet(int one, int other, int into) throws IndexOutOfBoundsException {
        Order first = orderAt(one);
        Order second = orderAt(other);
        Order to = orderAt(into);
        if (first.count != second.count) {
            return REFUSED;
        }
        made.becomeCommon(first, second);
        to.become(made);
        return to.pairCount();
    }

    // Things and pairs.

    public int things(int order) throws IndexOutOfBoundsException {
        return orderAt(order).count;
    }

    public int pairs(int order) throws IndexOutOfBoundsException {
        return orderAt(order).pairCount();
    }

    public int nexts(int order) throws IndexOutOfBoundsException {
        return orderAt(order).nextCount();
    }

    public char sign(int order, int one, int other) throws IndexOutOfBoundsException {
        Order it = orderWithBoth(order, one, other);
        if (one == other) {
            return '=';
        }
        if (it.isBelow(one, other)) {
            return '<';
        }
        return it.isBelow(other, one) ? '>' : '|';
    }

    public boolean isNext(int order, int low, int high) throws IndexOutOfBoundsException {
        return orderWithBoth(order, low, high).isNextBelow(low, high);
    }

    public int lower(int order, int thing) throws IndexOutOfBoundsException {
        return orderWith(order, thing).below[thing];
    }

    public int upper(int order, int thing) throws IndexOutOfBoundsException {
        return orderWith(order, thing).aboveOf(thing);
    }

    public int ends(int order, boolean areGreatest) throws IndexOutOfBoundsException {
        Order it = orderAt(order);
        return areGreatest ? it.greatestOf(it.all()) : it.leastOf(it.all());
    }

    public int value(int order, int thing) throws IndexOutOfBoundsException {
        return orderWith(order, thing).values[thing];
    }

    public boolean isSame(int one, int other) throws IndexOutOfBoundsException {
        Order first = orderAt(one);
        Order second = orderAt(other);
        return first.hasPairsOf(second);
    }

    // Chains, and things apart.

    public boolean isChain(int order, int set) throws IndexOutOfBoundsException, IllegalArgumentException {
        return orderWithSet(order, set).isInLine(set);
    }

    public boolean isApart(int order, int set) throws IndexOutOfBoundsException, IllegalArgumentException {
        return orderWithSet(order, set).isUnordered(set);
    }

    public int level(int order, int thing) throws IndexOutOfBoundsException {
        Order it = orderWith(order, thing);
        return Chains.longestWithin(it, it.below[thing]) + 1;
    }

    public int longest(int order) throws IndexOutOfBoundsException {
        Order it = orderAt(order);
        return Chains.longestWithin(it, it.all());
    }

    public int widest(int order) throws IndexOutOfBoundsException {
        return Chains.mostApart(orderAt(order));
    }

    public int fewestChains(int order) throws IndexOutOfBoundsException {
        return chains.chainCover(orderAt(order));
    }

    public int fewestAparts(int order) throws IndexOutOfBoundsException {
        return Chains.layerCount(orderAt(order));
    }

    public int aparts(int order) throws IndexOutOfBoundsException {
        return Chains.apartCount(orderAt(order));
    }

    // Sets closed below.

    public int sets(int order) throws IndexOutOfBoundsException {
        return ClosedSets.count(orderAt(order));
    }

    public int setsOf(int order, int many) throws IndexOutOfBoundsException {
        return ClosedSets.countOfSize(orderAt(order), many);
    }

    public int setAt(int order, int place) throws IndexOutOfBoundsException {
        int set = ClosedSets.findAt(orderAt(order), place);
        if (set == NONE) {
            throw new IndexOutOfBoundsException("no such place");
        }
        return set;
    }

    public int placeOf(int order, int set) throws IndexOutOfBoundsException, IllegalArgumentException {
        Order it = orderWithSet(order, set);
        return it.isClosedBelow(set) ? ClosedSets.countAhead(it, set) : NONE;
    }

    public int near(int order, int set, char way) throws IndexOutOfBoundsException, IllegalArgumentException {
        Order it = orderWithSet(order, set);
        switch (way) {
            case 'l':
                return ClosedSets.lastAhead(it, set);
            case 'f':
                return it.isClosedBelow(set) ? set : ClosedSets.lastAhead(it, set);
            case 'c':
                return it.isClosedBelow(set) ? set : ClosedSets.firstBehind(it, set);
            case 'h':
                return ClosedSets.firstBehind(it, set);
            default:
                throw new IllegalArgumentException("no such way");
        }
    }

    public int closed(int order, int set) throws IndexOutOfBoundsException, IllegalArgumentException {
        return orderWithSet(order, set).filledUp(set);
    }

    public int inner(int order, int set) throws IndexOutOfBoundsException, IllegalArgumentException {
        return orderWithSet(order, set).pared(set);
    }

    public int tops(int order, int set) throws IndexOutOfBoundsException, IllegalArgumentException {
        Order it = orderWithSet(order, set);
        return it.isClosedBelow(set) ? it.greatestOf(set) : REFUSED;
    }

    public int shared(int one, int other) throws IndexOutOfBoundsException {
        Order first = orderAt(one);
        Order second = orderAt(other);
        return first.count == second.count ? ClosedSets.countShared(first, second) : REFUSED;
    }

    // Rows.

    public int rows(int order) throws IndexOutOfBoundsException {
        return table.count(orderAt(order));
    }

    public int rowAt(int order, int place) throws IndexOutOfBoundsException {
        Order it = orderAt(order);
        layOutRow(it, place);
        return table.lineAsNumber(it);
    }

    public int rowPlace(int order, int row) throws IndexOutOfBoundsException {
        return table.findPlace(orderAt(order), row);
    }

    public int nextRow(int order, int row) throws IndexOutOfBoundsException, IllegalArgumentException {
        Order it = orderAt(order);
        int place = table.findPlace(it, row);
        if (place == NONE) {
            throw new IllegalArgumentException("no row of the order");
        }
        if (place + 1 >= table.count(it)) {
            return NONE;
        }
        layOutRow(it, place + 1);
        return table.lineAsNumber(it);
    }

    public int rowsWith(int order, int one, int other) throws IndexOutOfBoundsException {
        Order it = orderWithBoth(order, one, other);
        table.fill(it);
        return table.countAhead(it, one, other);
    }

    public int rowsAt(int order, int thing, int place) throws IndexOutOfBoundsException {
        Order it = orderWith(order, thing);
        table.fill(it);
        return table.countAtPlace(it, thing, place);
    }

    public double meanPlace(int order, int thing) throws IndexOutOfBoundsException {
        Order it = orderWith(order, thing);
        int all = atLeastOne(table.fill(it));
        return (double) table.sumOfPlaces(it, thing) / (double) all;
    }

    public float share(int order, int one, int other) throws IndexOutOfBoundsException {
        Order it = orderWithBoth(order, one, other);
        int all = atLeastOne(table.fill(it));
        return (float) table.countAhead(it, one, other) / (float) all;
    }

    // Sums.

    public int sum(int order, int thing) throws IndexOutOfBoundsException {
        return orderWith(order, thing).sumUpTo(thing);
    }

    public int number(int order, int low, int high) throws IndexOutOfBoundsException {
        return numbers.between(orderWithBoth(order, low, high), low, high);
    }

    public int undone(int order, int thing) throws IndexOutOfBoundsException {
        return numbers.undoSums(orderWith(order, thing), thing);
    }

    // The whole.

    public boolean isSound(int order) throws IndexOutOfBoundsException {
        return theorem.holdsFor(orderAt(order));
    }

    public boolean areSound(int one, int other) throws IndexOutOfBoundsException {
        Order first = orderAt(one);
        Order second = orderAt(other);
        return first.count + second.count > MOST_THINGS || theorem.holdsForBoth(first, second);
    }

    public long checksum() {
        long total = 17;
        for (int k = 0; k < ORDERS; k++) {
            total = mixedIn(total, orders[k]);
        }
        return total;
    }

    private long mixedIn(long start, Order it) {
        long total = 31 * start + it.count;
        for (int thing = 0; thing < it.count; thing++) {
            total = 31 * total + it.below[thing];
            total = 31 * total + it.values[thing];
        }
        total = 31 * total + ClosedSets.count(it);
        total = 31 * total + table.count(it);
        total = 31 * total + Chains.mostApart(it);
        return 31 * total + Chains.longestWithin(it, it.all());
    }

    private Order orderAt(int order) {
        if (order < 0 || order >= ORDERS) {
            throw new IndexOutOfBoundsException("no such order");
        }
        return orders[order];
    }

    private Order orderWith(int order, int thing) {
        Order it = orderAt(order);
        if (!it.hasThing(thing)) {
            throw new IndexOutOfBoundsException("no such thing");
        }
        return it;
    }

    private Order orderWithBoth(int order, int one, int other) {
        Order it = orderWith(order, one);
        if (!it.hasThing(other)) {
            throw new IndexOutOfBoundsException("no such thing");
        }
        return it;
    }

    private Order orderWithSet(int order, int set) {
        Order it = orderAt(order);
        if (set < 0 || set >= it.setLimit()) {
            throw new IllegalArgumentException("no set of its things");
        }
        return it;
    }

    private static void refuseOddMany(int many) {
        if (many < 0 || many > MOST_THINGS) {
            throw new IllegalArgumentException("many is out of range");
        }
    }

    private static void refuseOddValue(int value) {
        if (value < -GREATEST_VALUE || value > GREATEST_VALUE) {
            throw new IllegalArgumentException("value is out of range");
        }
    }

    private void layOutRow(Order it, int place) {
        int all = table.fill(it);
        if (place < 0 || place >= all) {
            throw new IndexOutOfBoundsException("no such row");
        }
        table.layOut(it, place);
    }

    private Order joinInto(int one, int other, int into, boolean isStacked) {
        Order first = orderAt(one);
        Order second = orderAt(other);
        Order to = orderAt(into);
        if (first.count + second.count > MOST_THINGS) {
            throw new IllegalStateException("more than 9 things");
        }
        made.becomeJoined(first, second, isStacked);
        to.become(made);
        return to;
    }

    /** Each order has a row; this looks at the divisor all the same, ahead of its use. */
    private static int atLeastOne(int divisor) {
        return Math.max(1, divisor);
    }

    private static boolean has(int set, int thing) {
        return (set >> thing & 1) != 0;
    }

    private static boolean isWithin(int part, int set) {
        return (part & ~set) == 0;
    }

    /** The things, their values, and for each thing the set of all below it: that tells every pair. */
    private static final class Order {
        int count;
        final int[] below = new int[MOST_THINGS];
        final int[] values = new int[MOST_THINGS];

        int all() {
            return setLimit() - 1;
        }

        int setLimit() {
            return 1 << count;
        }

        boolean hasThing(int thing) {
            return thing >= 0 && thing < count;
        }

        void clearTo(int many) {
            count = many;
            for (int k = 0; k < MOST_THINGS; k++) {
                below[k] = 0;
                values[k] = 0;
            }
        }

        void lineUp() {
            for (int k = 0; k < count; k++) {
                below[k] = (1 << k) - 1;
            }
        }

        void standAs(int[] line) {
            int ahead = 0;
            for (int k = 0; k < count; k++) {
                int thing = line[k];
                if (hasThing(thing)) {
                    below[thing] = ahead;
                    ahead |= 1 << thing;
                }
            }
        }

        int append(int value) {
            int thing = count;
            below[thing] = 0;
            values[thing] = value;
            count++;
            return thing;
        }

        void retain(int set) {
            int kept = 0;
            for (int k = 0; k < count; k++) {
                if (has(set, k)) {
                    below[kept] = squeezed(below[k], set);
                    values[kept] = values[k];
                    kept++;
                }
            }
            count = kept;
        }

        /** What a set is told as when only the things of kept are left and numbered anew. */
        private static int squeezed(int set, int kept) {
            int result = 0;
            int number = 0;
            for (int k = 0; k < MOST_THINGS; k++) {
                if (has(kept, k)) {
                    if (has(set, k)) {
                        result |= 1 << number;
                    }
                    number++;
                }
            }
            return result;
        }

        int link(int low, int high) {
            if (low == high || isBelow(high, low)) {
                return REFUSED;
            }
            int had = pairCount();
            int under = below[low] | 1 << low;
            for (int k = 0; k < count; k++) {
                if (k == high || isBelow(high, k)) {
                    below[k] |= under;
                }
            }
            return pairCount() - had;
        }

        void cut(int low, int high) {
            below[high] &= ~(1 << low);
        }

        void become(Order from) {
            count = from.count;
            for (int k = 0; k < MOST_THINGS; k++) {
                below[k] = from.below[k];
                values[k] = from.values[k];
            }
        }

        void becomeTurned(Order from) {
            clearTo(from.count);
            for (int k = 0; k < count; k++) {
                below[k] = from.aboveOf(k);
                values[k] = from.values[k];
            }
        }

        void becomeJoined(Order one, Order other, boolean isStacked) {
            int shift = one.count;
            clearTo(Math.min(MOST_THINGS, shift + other.count));
            for (int k = 0; k < shift; k++) {
                below[k] = one.below[k];
                values[k] = one.values[k];
            }
            for (int k = shift; k < count; k++) {
                below[k] = other.below[k - shift] << shift | (isStacked ? one.all() : 0);
                values[k] = other.values[k - shift];
            }
        }

        void becomeCommon(Order one, Order other) {
            become(one);
            for (int k = 0; k < count; k++) {
                below[k] &= other.below[k];
            }
        }

        boolean isBelow(int low, int high) {
            return has(below[high], low);
        }

        boolean isNextBelow(int low, int high) {
            return isBelow(low, high) && (aboveOf(low) & below[high]) == 0;
        }

        int aboveOf(int thing) {
            int set = 0;
            for (int k = 0; k < count; k++) {
                if (isBelow(thing, k)) {
                    set |= 1 << k;
                }
            }
            return set;
        }

        int pairCount() {
            int found = 0;
            for (int k = 0; k < count; k++) {
                found += Integer.bitCount(below[k]);
            }
            return found;
        }

        int nextCount() {
            int found = 0;
            for (int high = 0; high < count; high++) {
                // Next below a thing are just the greatest of those below it.
                found += Integer.bitCount(greatestOf(below[high]));
            }
            return found;
        }

        boolean hasPairsOf(Order other) {
            if (count != other.count) {
                return false;
            }
            for (int k = 0; k < count; k++) {
                if (below[k] != other.below[k]) {
                    return false;
                }
            }
            return true;
        }

        boolean isInLine(int set) {
            int found = 0;
            for (int k = 0; k < count; k++) {
                if (has(set, k)) {
                    found += Integer.bitCount(below[k] & set);
                }
            }
            int many = Integer.bitCount(set);
            return found == many * (many - 1) / 2;
        }

        boolean isUnordered(int set) {
            for (int k = 0; k < count; k++) {
                if (has(set, k) && (below[k] & set) != 0) {
                    return false;
                }
            }
            return true;
        }

        int allBelow(int set) {
            int found = 0;
            for (int k = 0; k < count; k++) {
                if (has(set, k)) {
                    found |= below[k];
                }
            }
            return found;
        }

        int greatestOf(int set) {
            return set & ~allBelow(set);
        }

        int leastOf(int set) {
            int found = 0;
            for (int k = 0; k < count; k++) {
                if (has(set, k) && (below[k] & set) == 0) {
                    found |= 1 << k;
                }
            }
            return found;
        }

        boolean isClosedBelow(int set) {
            for (int k = 0; k < count; k++) {
                if (has(set, k) && !isWithin(below[k], set)) {
                    return false;
                }
            }
            return true;
        }

        int filledUp(int set) {
            return set | allBelow(set);
        }

        /** A thing with all below it in the set stays; what is below it stays too, so one look at each is enough. */
        int pared(int set) {
            int found = 0;
            for (int k = 0; k < count; k++) {
                if (has(set, k) && isWithin(below[k], set)) {
                    found |= 1 << k;
                }
            }
            return found;
        }

        /** Whether a thing can come to a closed set, so that it is closed again. */
        boolean canCome(int set, int thing) {
            return (set >> thing & 1) == 0 && (below[thing] & ~set) == 0;
        }

        int sumUpTo(int thing) {
            int total = values[thing];
            for (int k = 0; k < count; k++) {
                if (isBelow(k, thing)) {
                    total += values[k];
                }
            }
            return total;
        }
    }

    /** Chains, sets of things apart, and how few of them have all things. */
    private static final class Chains {
        /** For each thing the one that stands right ahead of it in its chain, or NONE. */
        private final int[] ahead = new int[MOST_THINGS];
        /** For each thing the last search that came to it. */
        private final int[] searched = new int[MOST_THINGS];

        static int longestWithin(Order it, int within) {
            int most = 0;
            for (int set = 0; set < it.setLimit(); set++) {
                if (isWithin(set, within) && it.isInLine(set)) {
                    most = Math.max(most, Integer.bitCount(set));
                }
            }
            return most;
        }

        static int mostApart(Order it) {
            int most = 0;
            for (int set = 0; set < it.setLimit(); set++) {
                if (it.isUnordered(set)) {
                    most = Math.max(most, Integer.bitCount(set));
                }
            }
            return most;
        }

        static int apartCount(Order it) {
            int found = 0;
            for (int set = 0; set < it.setLimit(); set++) {
                if (it.isUnordered(set)) {
                    found++;
                }
            }
            return found;
        }

        /** The least of those left are apart, and no fewer layers do: a thing of each makes a chain. */
        static int layerCount(Order it) {
            int left = it.all();
            int layers = 0;
            for (int k = 0; k < it.count; k++) {
                if (left != 0) {
                    left &= ~it.leastOf(left);
                    layers++;
                }
            }
            return layers;
        }

        /** Each thing that follows another one in its chain saves one chain. */
        int chainCover(Order it) {
            for (int k = 0; k < MOST_THINGS; k++) {
                ahead[k] = NONE;
                searched[k] = NONE;
            }
            int chainCount = it.count;
            for (int thing = 0; thing < it.count; thing++) {
                if (findsFollower(it, ahead, searched, thing, thing, 0)) {
                    chainCount--;
                }
            }
            return chainCount;
        }

        /**
         * A follower that has one ahead of it is free if that one finds another follower. A search comes to each thing
         * once, so it goes no deeper than there are things.
         */
        private static boolean findsFollower(Order it, int[] ahead, int[] searched, int thing, int search, int depth) {
            if (depth > MOST_THINGS || !it.hasThing(thing)) {
                return false;
            }
            for (int high = 0; high < it.count; high++) {
                if (it.isBelow(thing, high) && searched[high] != search) {
                    searched[high] = search;
                    if (ahead[high] == NONE || findsFollower(it, ahead, searched, ahead[high], search, depth + 1)) {
                        ahead[high] = thing;
                        return true;
                    }
                }
            }
            return false;
        }
    }

    /** The closed sets of an order, in the sequence of sets. */
    private static final class ClosedSets {
        static boolean isAhead(int one, int other) {
            int difference = Integer.bitCount(one) - Integer.bitCount(other);
            return difference < 0 || difference == 0 && one < other;
        }

        static int count(Order it) {
            int found = 0;
            for (int set = 0; set < it.setLimit(); set++) {
                if (it.isClosedBelow(set)) {
                    found++;
                }
            }
            return found;
        }

        static int countOfSize(Order it, int many) {
            int found = 0;
            for (int set = 0; set < it.setLimit(); set++) {
                if (Integer.bitCount(set) == many && it.isClosedBelow(set)) {
                    found++;
                }
            }
            return found;
        }

        static int countAhead(Order it, int other) {
            int found = 0;
            for (int set = 0; set < it.setLimit(); set++) {
                if (isAhead(set, other) && it.isClosedBelow(set)) {
                    found++;
                }
            }
            return found;
        }

        static int countShared(Order one, Order other) {
            int found = 0;
            for (int set = 0; set < one.setLimit(); set++) {
                if (one.isClosedBelow(set) && other.isClosedBelow(set)) {
                    found++;
                }
            }
            return found;
        }

        static int findAt(Order it, int place) {
            int passed = 0;
            for (int size = 0; size <= it.count; size++) {
                for (int set = 0; set < it.setLimit(); set++) {
                    if (Integer.bitCount(set) == size && it.isClosedBelow(set)) {
                        if (passed == place) {
                            return set;
                        }
                        passed++;
                    }
                }
            }
            return NONE;
        }

        static int lastAhead(Order it, int other) {
            int best = NONE;
            for (int set = 0; set < it.setLimit(); set++) {
                if (isAhead(set, other) && (best == NONE || isAhead(best, set)) && it.isClosedBelow(set)) {
                    best = set;
                }
            }
            return best;
        }

        static int firstBehind(Order it, int other) {
            int best = NONE;
            for (int set = 0; set < it.setLimit(); set++) {
                if (isAhead(other, set) && (best == NONE || isAhead(set, best)) && it.isClosedBelow(set)) {
                    best = set;
                }
            }
            return best;
        }
    }

    /**
     * Counts rows by the closed sets that they go through: there are at most 512 of these, and up to 362880 rows. A set
     * that is not closed has no way to it.
     */
    private static final class RowTable {
        /** For each set, the ways to it from the empty one. */
        private final int[] waysTo = new int[MOST_SETS];
        /** For each closed set, the ways from it to that of all things. */
        private final int[] waysOn = new int[MOST_SETS];
        /** The things of one row, from the first one on. */
        final int[] line = new int[MOST_THINGS];

        /** Makes the ways to all sets alone, and returns how many rows there are. */
        int count(Order it) {
            int limit = it.setLimit();
            for (int set = 1; set < limit; set++) {
                waysTo[set] = 0;
            }
            waysTo[0] = 1;
            for (int set = 0; set < limit; set++) {
                if (waysTo[set] != 0) {
                    passOn(it, set);
                }
            }
            return waysTo[limit - 1];
        }

        private void passOn(Order it, int set) {
            for (int thing = 0; thing < it.count; thing++) {
                if (it.canCome(set, thing)) {
                    waysTo[set | 1 << thing] += waysTo[set];
                }
            }
        }

        /** Makes the ways to all sets and on from them, and returns how many rows there are. */
        int fill(Order it) {
            int all = count(it);
            for (int set = it.all(); set >= 0; set--) {
                if (waysTo[set] != 0) {
                    waysOn[set] = set == it.all() ? 1 : waysByLesser(it, set, it.count);
                }
            }
            return all;
        }

        boolean isReached(int set) {
            return waysTo[set] != 0;
        }

        /** The ways on from a set that go by a thing with a lesser number than limit. */
        private int waysByLesser(Order it, int set, int limit) {
            int found = 0;
            for (int thing = 0; thing < limit; thing++) {
                if (it.canCome(set, thing)) {
                    found += waysOn[set | 1 << thing];
                }
            }
            return found;
        }

        /** Writes the row of a place into the line, behind fill(). */
        void layOut(Order it, int place) {
            int set = 0;
            int left = place;
            for (int k = 0; k < it.count; k++) {
                int thing = thingFor(it, set, left);
                left -= waysByLesser(it, set, thing);
                line[k] = thing;
                set |= 1 << thing;
            }
        }

        private int thingFor(Order it, int set, int left) {
            int found = 0;
            for (int thing = 0; thing < it.count; thing++) {
                if (it.canCome(set, thing) && waysByLesser(it, set, thing) <= left) {
                    found = thing;
                }
            }
            return found;
        }

        int lineAsNumber(Order it) {
            int row = 0;
            for (int k = 0; k < it.count; k++) {
                row = row * 10 + line[k] + 1;
            }
            return row;
        }

        int findPlace(Order it, int row) {
            if (row < 0 || withoutLast(row, it.count) != 0) {
                return NONE;
            }
            fill(it);
            int set = 0;
            int place = 0;
            for (int k = 1; k <= it.count; k++) {
                int thing = withoutLast(row, it.count - k) % 10 - 1;
                if (!it.hasThing(thing) || !it.canCome(set, thing)) {
                    return NONE;
                }
                place += waysByLesser(it, set, thing);
                set |= 1 << thing;
            }
            return place;
        }

        private static int withoutLast(int row, int digits) {
            int left = row;
            for (int k = 0; k < digits; k++) {
                left /= 10;
            }
            return left;
        }

        /** The rows in which a thing comes right behind the things of a set, behind fill(). */
        private int waysThrough(Order it, int set, int thing) {
            return it.canCome(set, thing) && waysTo[set] != 0 ? waysTo[set] * waysOn[set | 1 << thing] : 0;
        }

        int countAhead(Order it, int one, int other) {
            int found = 0;
            for (int set = 0; set < it.setLimit(); set++) {
                if (has(set, one)) {
                    found += waysThrough(it, set, other);
                }
            }
            return found;
        }

        int countAtPlace(Order it, int thing, int place) {
            int found = 0;
            for (int set = 0; set < it.setLimit(); set++) {
                if (Integer.bitCount(set) == place) {
                    found += waysThrough(it, set, thing);
                }
            }
            return found;
        }

        int sumOfPlaces(Order it, int thing) {
            int found = 0;
            for (int set = 0; set < it.setLimit(); set++) {
                found += Integer.bitCount(set) * waysThrough(it, set, thing);
            }
            return found;
        }
    }

    /** The NUMBERS of one thing and all others. */
    private static final class Numbers {
        private final int[] ofHigh = new int[MOST_THINGS];

        int between(Order it, int low, int high) {
            fillFrom(it, low);
            return ofHigh[high];
        }

        int undoSums(Order it, int thing) {
            int total = 0;
            for (int low = 0; low < it.count; low++) {
                if (low == thing || it.isBelow(low, thing)) {
                    fillFrom(it, low);
                    total += it.sumUpTo(low) * ofHigh[thing];
                }
            }
            return total;
        }

        /** Things with fewer below them go first, so that what is below a thing has its NUMBER already. */
        private void fillFrom(Order it, int low) {
            for (int size = 0; size < it.count; size++) {
                for (int high = 0; high < it.count; high++) {
                    if (Integer.bitCount(it.below[high]) == size) {
                        ofHigh[high] = high == low ? 1 : -sumBelow(it, high);
                    }
                }
            }
        }

        /** What is not above low has the NUMBER 0, so all below may be added. */
        private int sumBelow(Order it, int high) {
            int total = 0;
            for (int k = 0; k < it.count; k++) {
                if (has(it.below[high], k)) {
                    total += ofHigh[k];
                }
            }
            return total;
        }

        /** Whether the NUMBERS of low and all from low to any thing above it are 0 together. */
        boolean vanishFrom(Order it, int low) {
            fillFrom(it, low);
            for (int high = 0; high < it.count; high++) {
                if (it.isBelow(low, high)) {
                    int total = ofHigh[low] + ofHigh[high];
                    for (int k = 0; k < it.count; k++) {
                        total += it.isBelow(low, k) && it.isBelow(k, high) ? ofHigh[k] : 0;
                    }
                    if (total != 0) {
                        return false;
                    }
                }
            }
            return true;
        }
    }

    /** Looks whether orders are as the document's theorem has it; all is tried on orders of its own. */
    private static final class Theorem {
        private final Order tried = new Order();
        private final Order turned = new Order();
        private final RowTable table = new RowTable();
        private final RowTable triedTable = new RowTable();
        private final Chains chains = new Chains();
        private final Numbers numbers = new Numbers();
        private final int[] sizes = new int[MOST_THINGS + 1];

        boolean holdsFor(Order it) {
            return isOrdered(it) && linksLeast(it) && looseComesBack(it) && growsByGreatest(it) && rowsTellPairs(it)
                    && coversFit(it) && closedSetsFit(it) && sumsAreUndone(it) && turnsRound(it);
        }

        boolean holdsForBoth(Order one, Order other) {
            return besideFits(one, other) && aboveFits(one, other);
        }

        /** (1): no thing is below itself, and what is below a thing is below all above that one. */
        private static boolean isOrdered(Order it) {
            for (int high = 0; high < it.count; high++) {
                if (it.isBelow(high, high) || !isWithin(it.allBelow(it.below[high]), it.below[high])) {
                    return false;
                }
            }
            return true;
        }

        /** (1): put() on any two things. */
        private boolean linksLeast(Order it) {
            for (int low = 0; low < it.count; low++) {
                for (int high = 0; high < it.count; high++) {
                    if (!linksLeastFor(it, low, high)) {
                        return false;
                    }
                }
            }
            return true;
        }

        private boolean linksLeastFor(Order it, int low, int high) {
            tried.become(it);
            boolean isRefused = tried.link(low, high) == REFUSED;
            if (isRefused != (low == high || it.isBelow(high, low))) {
                return false;
            }
            if (isRefused) {
                return tried.hasPairsOf(it);
            }
            int under = it.below[low] | 1 << low;
            for (int k = 0; k < it.count; k++) {
                boolean isUpper = k == high || it.isBelow(high, k);
                if (tried.below[k] != (isUpper ? it.below[k] | under : it.below[k])) {
                    return false;
                }
            }
            return isOrdered(tried);
        }

        /** (1): a pair that goes and comes again leaves the order as it was. */
        private boolean looseComesBack(Order it) {
            for (int low = 0; low < it.count; low++) {
                for (int high = 0; high < it.count; high++) {
                    if (it.isNextBelow(low, high)) {
                        tried.become(it);
                        tried.cut(low, high);
                        if (!isOrdered(tried) || tried.link(low, high) != 1 || !tried.hasPairsOf(it)) {
                            return false;
                        }
                    }
                }
            }
            return true;
        }

        /** (2): the rows of the orders without a greatest thing, together. */
        private boolean growsByGreatest(Order it) {
            int greatest = it.greatestOf(it.all());
            int found = it.count == 0 ? 1 : 0;
            for (int thing = 0; thing < it.count; thing++) {
                if (has(greatest, thing)) {
                    tried.become(it);
                    tried.retain(it.all() & ~(1 << thing));
                    found += triedTable.count(tried);
                }
            }
            return found == table.count(it);
        }

        /** (3): any two unlike things in all rows, and behind a put(). */
        private boolean rowsTellPairs(Order it) {
            int all = table.fill(it);
            for (int one = 0; one < it.count; one++) {
                for (int other = 0; other < it.count; other++) {
                    if (one != other && !rowsTellPair(it, one, other, all)) {
                        return false;
                    }
                }
            }
            return true;
        }

        private boolean rowsTellPair(Order it, int one, int other, int all) {
            int found = table.countAhead(it, one, other);
            if (it.isBelow(other, one)) {
                return found == 0;
            }
            if (it.isBelow(one, other)) {
                return found == all;
            }
            tried.become(it);
            tried.link(one, other);
            return found > 0 && found < all && triedTable.count(tried) == found;
        }

        /** (4): the fewest chains, and the fewest sets of things apart. */
        private boolean coversFit(Order it) {
            return chains.chainCover(it) == Chains.mostApart(it)
                    && Chains.layerCount(it) == Chains.longestWithin(it, it.all());
        }

        /** (5): what closed sets are, together and each for itself. */
        private boolean closedSetsFit(Order it) {
            table.count(it);
            for (int set = 0; set < it.setLimit(); set++) {
                boolean isClosed = it.isClosedBelow(set);
                if (isClosed != table.isReached(set) || isClosed && !closedSetFits(it, set)) {
                    return false;
                }
            }
            for (int thing = 0; thing < it.count; thing++) {
                if (!staysClosedBy(it, thing)) {
                    return false;
                }
            }
            return ClosedSets.count(it) == Chains.apartCount(it);
        }

        private static boolean closedSetFits(Order it, int set) {
            boolean canGrow = set == it.all();
            for (int thing = 0; thing < it.count; thing++) {
                canGrow = canGrow || it.canCome(set, thing);
            }
            return canGrow && it.filledUp(it.greatestOf(set)) == set;
        }

        /**
         * Each closed set is some sets of a thing and all below it united, and some sets of all but a thing and those
         * above it met; so these are enough for all closed sets, united or met.
         */
        private boolean staysClosedBy(Order it, int thing) {
            int under = it.below[thing] | 1 << thing;
            int over = it.aboveOf(thing) | 1 << thing;
            for (int set = 0; set < it.setLimit(); set++) {
                if (table.isReached(set) && !(table.isReached(set | under) && table.isReached(set & ~over))) {
                    return false;
                }
            }
            return true;
        }

        /** (6): the sums are undone, and the NUMBERS from any thing on are 0 together. */
        private boolean sumsAreUndone(Order it) {
            for (int thing = 0; thing < it.count; thing++) {
                if (numbers.undoSums(it, thing) != it.values[thing] || !numbers.vanishFrom(it, thing)) {
                    return false;
                }
            }
            return true;
        }

        /** (7): turned round, and turned twice. */
        private boolean turnsRound(Order it) {
            turned.becomeTurned(it);
            tried.becomeTurned(turned);
            return isOrdered(turned) && tried.hasPairsOf(it) && triedTable.count(turned) == table.count(it)
                    && Chains.longestWithin(turned, turned.all()) == Chains.longestWithin(it, it.all())
                    && Chains.mostApart(turned) == Chains.mostApart(it) && sizesTurn(it);
        }

        private boolean sizesTurn(Order it) {
            for (int size = 0; size <= MOST_THINGS; size++) {
                sizes[size] = 0;
            }
            for (int set = 0; set < it.setLimit(); set++) {
                int size = Integer.bitCount(set);
                sizes[it.count - size] += it.isClosedBelow(set) ? 1 : 0;
                sizes[size] -= turned.isClosedBelow(set) ? 1 : 0;
            }
            for (int size = 0; size <= MOST_THINGS; size++) {
                if (sizes[size] != 0) {
                    return false;
                }
            }
            return true;
        }

        /** (8): two orders side by side. */
        private boolean besideFits(Order one, Order other) {
            tried.becomeJoined(one, other, false);
            int mixtures = waysToChoose(one.count, other.count);
            return triedTable.count(tried) == table.count(one) * table.count(other) * mixtures
                    && ClosedSets.count(tried) == ClosedSets.count(one) * ClosedSets.count(other)
                    && Chains.mostApart(tried) == Chains.mostApart(one) + Chains.mostApart(other)
                    && longestOf(tried) == Math.max(longestOf(one), longestOf(other));
        }

        /** (8): two orders one above the other. */
        private boolean aboveFits(Order one, Order other) {
            tried.becomeJoined(one, other, true);
            return triedTable.count(tried) == table.count(one) * table.count(other)
                    && ClosedSets.count(tried) == ClosedSets.count(one) + ClosedSets.count(other) - 1
                    && Chains.mostApart(tried) == Math.max(Chains.mostApart(one), Chains.mostApart(other))
                    && longestOf(tried) == longestOf(one) + longestOf(other);
        }

        private static int longestOf(Order it) {
            return Chains.longestWithin(it, it.all());
        }

        /** The ways to choose some things out of these and more others. */
        private static int waysToChoose(int some, int more) {
            int ways = 1;
            for (int k = 1; k <= more; k++) {
                ways = ways * (some + k) / k;
            }
            return ways;
        }
    }
}
