import java.util.ArrayList;
import java.util.Arrays;
import java.util.Collections;
import java.util.Comparator;
import java.util.List;
import java.util.TreeSet;

/** What the document says, done from its words in the plainest way: pairs as a table, rows and sets written out. */
final class Model {
    private static final Comparator<Integer> SEQUENCE =
            Comparator.comparing((Integer set) -> Integer.bitCount(set)).thenComparing(set -> set);

    private final boolean[][][] under = new boolean[4][][];
    private final int[][] values = new int[4][];
    /** The rows of each order in their sequence, or null if they must be made anew. */
    private final List<List<Integer>> rows = new ArrayList<>();
    /** The closed sets of each order in their sequence, or null if they must be made anew. */
    private final List<TreeSet<Integer>> closedSets = new ArrayList<>();

    Model() {
        for (int order = 0; order < 4; order++) {
            rows.add(null);
            closedSets.add(null);
            set(order, new boolean[0][0], new int[0]);
        }
    }

    private void set(int order, boolean[][] pairs, int[] itsValues) {
        under[order] = pairs;
        values[order] = itsValues;
        forget(order);
    }

    private void forget(int order) {
        rows.set(order, null);
        closedSets.set(order, null);
    }

    private static void need(boolean isThere) {
        if (!isThere) {
            throw new IndexOutOfBoundsException();
        }
    }

    private static void want(boolean isRight) {
        if (!isRight) {
            throw new IllegalArgumentException();
        }
    }

    private void needOrder(int order) {
        need(order >= 0 && order <= 3);
    }

    private void needThing(int order, int thing) {
        needOrder(order);
        need(thing >= 0 && thing < things(order));
    }

    private void wantSet(int order, int set) {
        needOrder(order);
        want(set >= 0 && set < 1 << things(order));
    }

    private static List<Integer> members(int set) {
        List<Integer> found = new ArrayList<>();
        for (int k = 0; k < 31; k++) {
            if ((set & 1 << k) != 0) {
                found.add(k);
            }
        }
        return found;
    }

    int lay(int order, int many) {
        needOrder(order);
        want(many >= 0 && many <= 9);
        int had = things(order);
        set(order, new boolean[many][many], new int[many]);
        return had;
    }

    int chain(int order, int many) {
        lay(order, many);
        for (int low = 0; low < many; low++) {
            for (int high = low + 1; high < many; high++) {
                under[order][low][high] = true;
            }
        }
        return pairs(order);
    }

    int add(int order, int value) {
        needOrder(order);
        want(value >= -1000 && value <= 1000);
        int had = things(order);
        if (had == 9) {
            throw new IllegalStateException();
        }
        boolean[][] pairs = new boolean[had + 1][had + 1];
        for (int low = 0; low < had; low++) {
            System.arraycopy(under[order][low], 0, pairs[low], 0, had);
        }
        int[] more = Arrays.copyOf(values[order], had + 1);
        more[had] = value;
        set(order, pairs, more);
        return had;
    }

    int drop(int order, int thing) {
        needThing(order, thing);
        int value = values[order][thing];
        keep(order, (1 << things(order)) - 1 - (1 << thing));
        return value;
    }

    int keep(int order, int set) {
        wantSet(order, set);
        List<Integer> kept = members(set);
        int had = things(order);
        boolean[][] pairs = new boolean[kept.size()][kept.size()];
        int[] itsValues = new int[kept.size()];
        for (int one = 0; one < kept.size(); one++) {
            itsValues[one] = values[order][kept.get(one)];
            for (int other = 0; other < kept.size(); other++) {
                pairs[one][other] = under[order][kept.get(one)][kept.get(other)];
            }
        }
        set(order, pairs, itsValues);
        return had - kept.size();
    }

    int setValue(int order, int thing, int value) {
        needThing(order, thing);
        want(value >= -1000 && value <= 1000);
        int had = values[order][thing];
        values[order][thing] = value;
        return had;
    }

    int put(int order, int low, int high) {
        needThing(order, low);
        needThing(order, high);
        if (low == high || under[order][high][low]) {
            return -9;
        }
        int had = pairs(order);
        under[order][low][high] = true;
        follow(order);
        forget(order);
        return pairs(order) - had;
    }

    /** Brings all pairs that follow from others, until no more come. */
    private void follow(int order) {
        boolean[][] it = under[order];
        boolean isNew = true;
        while (isNew) {
            isNew = false;
            for (int low = 0; low < it.length; low++) {
                for (int mid = 0; mid < it.length; mid++) {
                    for (int high = 0; high < it.length; high++) {
                        if (it[low][mid] && it[mid][high] && !it[low][high]) {
                            it[low][high] = true;
                            isNew = true;
                        }
                    }
                }
            }
        }
    }

    int loose(int order, int low, int high) {
        if (!isNext(order, low, high)) {
            return -9;
        }
        under[order][low][high] = false;
        forget(order);
        return pairs(order);
    }

    int straighten(int order, int place) {
        int row = rowAt(order, place);
        int had = pairs(order);
        String digits = String.valueOf(row);
        for (int one = 0; one < things(order); one++) {
            for (int other = one + 1; other < things(order); other++) {
                under[order][digits.charAt(one) - '1'][digits.charAt(other) - '1'] = true;
            }
        }
        forget(order);
        return pairs(order) - had;
    }

    int turn(int order) {
        needOrder(order);
        int many = things(order);
        boolean[][] pairs = new boolean[many][many];
        for (int low = 0; low < many; low++) {
            for (int high = 0; high < many; high++) {
                pairs[high][low] = under[order][low][high];
            }
        }
        set(order, pairs, values[order]);
        return pairs(order);
    }

    int copy(int order, int into) {
        needOrder(order);
        needOrder(into);
        boolean[][] pairs = new boolean[things(order)][];
        for (int low = 0; low < pairs.length; low++) {
            pairs[low] = under[order][low].clone();
        }
        set(into, pairs, values[order].clone());
        return things(into);
    }

    private void join(int one, int other, int into, boolean isAbove) {
        needOrder(one);
        needOrder(other);
        needOrder(into);
        int first = things(one);
        int many = first + things(other);
        if (many > 9) {
            throw new IllegalStateException();
        }
        boolean[][] pairs = new boolean[many][many];
        int[] itsValues = new int[many];
        for (int low = 0; low < many; low++) {
            itsValues[low] = low < first ? values[one][low] : values[other][low - first];
            for (int high = 0; high < many; high++) {
                if (low < first && high < first) {
                    pairs[low][high] = under[one][low][high];
                } else if (low >= first && high >= first) {
                    pairs[low][high] = under[other][low - first][high - first];
                } else {
                    pairs[low][high] = isAbove && low < first;
                }
            }
        }
        set(into, pairs, itsValues);
    }

    int beside(int one, int other, int into) {
        join(one, other, into, false);
        return things(into);
    }

    int above(int one, int other, int into) {
        join(one, other, into, true);
        return pairs(into);
    }

    int meet(int one, int other, int into) {
        needOrder(one);
        needOrder(other);
        needOrder(into);
        int many = things(one);
        if (many != things(other)) {
            return -9;
        }
        boolean[][] pairs = new boolean[many][many];
        for (int low = 0; low < many; low++) {
            for (int high = 0; high < many; high++) {
                pairs[low][high] = under[one][low][high] && under[other][low][high];
            }
        }
        set(into, pairs, values[one].clone());
        return pairs(into);
    }

    int things(int order) {
        needOrder(order);
        return values[order].length;
    }

    int pairs(int order) {
        needOrder(order);
        int found = 0;
        for (boolean[] row : under[order]) {
            for (boolean isUnder : row) {
                found += isUnder ? 1 : 0;
            }
        }
        return found;
    }

    int nexts(int order) {
        needOrder(order);
        int found = 0;
        for (int low = 0; low < things(order); low++) {
            for (int high = 0; high < things(order); high++) {
                found += isNext(order, low, high) ? 1 : 0;
            }
        }
        return found;
    }

    char sign(int order, int one, int other) {
        needThing(order, one);
        needThing(order, other);
        return one == other ? '=' : under[order][one][other] ? '<' : under[order][other][one] ? '>' : '|';
    }

    boolean isNext(int order, int low, int high) {
        needThing(order, low);
        needThing(order, high);
        boolean isNext = under[order][low][high];
        for (int mid = 0; mid < things(order); mid++) {
            isNext = isNext && !(under[order][low][mid] && under[order][mid][high]);
        }
        return isNext;
    }

    int lower(int order, int thing) {
        needThing(order, thing);
        int set = 0;
        for (int k = 0; k < things(order); k++) {
            set += under[order][k][thing] ? 1 << k : 0;
        }
        return set;
    }

    int upper(int order, int thing) {
        needThing(order, thing);
        int set = 0;
        for (int k = 0; k < things(order); k++) {
            set += under[order][thing][k] ? 1 << k : 0;
        }
        return set;
    }

    int ends(int order, boolean areGreatest) {
        needOrder(order);
        int set = 0;
        for (int k = 0; k < things(order); k++) {
            set += (areGreatest ? upper(order, k) : lower(order, k)) == 0 ? 1 << k : 0;
        }
        return set;
    }

    int value(int order, int thing) {
        needThing(order, thing);
        return values[order][thing];
    }

    boolean isSame(int one, int other) {
        needOrder(one);
        needOrder(other);
        return Arrays.deepEquals(under[one], under[other]);
    }

    boolean isChain(int order, int set) {
        wantSet(order, set);
        for (int one : members(set)) {
            for (int other : members(set)) {
                if (sign(order, one, other) == '|') {
                    return false;
                }
            }
        }
        return true;
    }

    boolean isApart(int order, int set) {
        wantSet(order, set);
        for (int one : members(set)) {
            for (int other : members(set)) {
                if (one != other && sign(order, one, other) != '|') {
                    return false;
                }
            }
        }
        return true;
    }

    int level(int order, int thing) {
        needThing(order, thing);
        int most = 0;
        for (int low : members(lower(order, thing))) {
            most = Math.max(most, level(order, low));
        }
        return most + 1;
    }

    int longest(int order) {
        needOrder(order);
        int most = 0;
        for (int thing = 0; thing < things(order); thing++) {
            most = Math.max(most, level(order, thing));
        }
        return most;
    }

    int widest(int order) {
        needOrder(order);
        int most = 0;
        for (int set = 0; set < 1 << things(order); set++) {
            most = isApart(order, set) ? Math.max(most, Integer.bitCount(set)) : most;
        }
        return most;
    }

    /** For each set the fewest parts of one kind that have all its things. */
    private int fewest(int order, boolean areChains) {
        needOrder(order);
        int[] fewest = new int[1 << things(order)];
        boolean[] isPart = new boolean[fewest.length];
        for (int set = 0; set < fewest.length; set++) {
            isPart[set] = areChains ? isChain(order, set) : isApart(order, set);
        }
        for (int set = 1; set < fewest.length; set++) {
            fewest[set] = 99;
            for (int part = set; part > 0; part = (part - 1) & set) {
                if (isPart[part]) {
                    fewest[set] = Math.min(fewest[set], fewest[set ^ part] + 1);
                }
            }
        }
        return fewest[fewest.length - 1];
    }

    int fewestChains(int order) {
        return fewest(order, true);
    }

    int fewestAparts(int order) {
        return fewest(order, false);
    }

    int aparts(int order) {
        needOrder(order);
        int found = 0;
        for (int set = 0; set < 1 << things(order); set++) {
            found += isApart(order, set) ? 1 : 0;
        }
        return found;
    }

    private boolean isClosed(int order, int set) {
        for (int thing : members(set)) {
            if (!members(set).containsAll(members(lower(order, thing)))) {
                return false;
            }
        }
        return true;
    }

    private TreeSet<Integer> closedSets(int order) {
        needOrder(order);
        if (closedSets.get(order) == null) {
            TreeSet<Integer> found = new TreeSet<>(SEQUENCE);
            for (int set = 0; set < 1 << things(order); set++) {
                if (isClosed(order, set)) {
                    found.add(set);
                }
            }
            closedSets.set(order, found);
        }
        return closedSets.get(order);
    }

    int sets(int order) {
        return closedSets(order).size();
    }

    int setsOf(int order, int many) {
        int found = 0;
        for (int set : closedSets(order)) {
            found += Integer.bitCount(set) == many ? 1 : 0;
        }
        return found;
    }

    int setAt(int order, int place) {
        List<Integer> sets = new ArrayList<>(closedSets(order));
        need(place >= 0 && place < sets.size());
        return sets.get(place);
    }

    int placeOf(int order, int set) {
        wantSet(order, set);
        return new ArrayList<>(closedSets(order)).indexOf(set);
    }

    int near(int order, int set, char way) {
        wantSet(order, set);
        want("lfch".indexOf(way) >= 0);
        TreeSet<Integer> sets = closedSets(order);
        Integer found = way == 'l' ? sets.lower(set) : way == 'f' ? sets.floor(set)
                : way == 'c' ? sets.ceiling(set) : sets.higher(set);
        return found == null ? -1 : found;
    }

    int closed(int order, int set) {
        wantSet(order, set);
        for (int found : closedSets(order)) {
            if ((found & set) == set) {
                return found;
            }
        }
        throw new AssertionError();
    }

    int inner(int order, int set) {
        wantSet(order, set);
        for (int found : closedSets(order).descendingSet()) {
            if ((found & set) == found) {
                return found;
            }
        }
        throw new AssertionError();
    }

    int tops(int order, int set) {
        wantSet(order, set);
        if (!isClosed(order, set)) {
            return -9;
        }
        int found = 0;
        for (int thing : members(set)) {
            found += (upper(order, thing) & set) == 0 ? 1 << thing : 0;
        }
        return found;
    }

    int shared(int one, int other) {
        needOrder(one);
        needOrder(other);
        if (things(one) != things(other)) {
            return -9;
        }
        TreeSet<Integer> both = new TreeSet<>(closedSets(one));
        both.retainAll(closedSets(other));
        return both.size();
    }

    private List<Integer> allRows(int order) {
        needOrder(order);
        if (rows.get(order) == null) {
            List<Integer> made = new ArrayList<>();
            makeRows(order, 0, 0, made);
            Collections.sort(made);
            rows.set(order, made);
        }
        return rows.get(order);
    }

    private void makeRows(int order, int set, int row, List<Integer> made) {
        if (Integer.bitCount(set) == things(order)) {
            made.add(row);
        }
        for (int thing = 0; thing < things(order); thing++) {
            if ((set & 1 << thing) == 0 && (lower(order, thing) & set) == lower(order, thing)) {
                makeRows(order, set + (1 << thing), row * 10 + thing + 1, made);
            }
        }
    }

    /** How many things stand ahead of a thing in a row. */
    private static int ahead(int row, int thing) {
        return String.valueOf(row).indexOf('1' + thing);
    }

    int rows(int order) {
        return allRows(order).size();
    }

    int rowAt(int order, int place) {
        needOrder(order);
        need(place >= 0 && place < rows(order));
        return allRows(order).get(place);
    }

    int rowPlace(int order, int row) {
        return Math.max(-1, Collections.binarySearch(allRows(order), row));
    }

    int nextRow(int order, int row) {
        int place = rowPlace(order, row);
        want(place >= 0);
        return place + 1 == rows(order) ? -1 : rowAt(order, place + 1);
    }

    int rowsWith(int order, int one, int other) {
        needThing(order, one);
        needThing(order, other);
        int found = 0;
        for (int row : allRows(order)) {
            found += ahead(row, one) < ahead(row, other) ? 1 : 0;
        }
        return found;
    }

    int rowsAt(int order, int thing, int place) {
        needThing(order, thing);
        int found = 0;
        for (int row : allRows(order)) {
            found += ahead(row, thing) == place ? 1 : 0;
        }
        return found;
    }

    double meanPlace(int order, int thing) {
        needThing(order, thing);
        int sum = 0;
        for (int row : allRows(order)) {
            sum += ahead(row, thing);
        }
        return (double) sum / (double) rows(order);
    }

    float share(int order, int one, int other) {
        return (float) rowsWith(order, one, other) / (float) rows(order);
    }

    int sum(int order, int thing) {
        needThing(order, thing);
        int total = value(order, thing);
        for (int low : members(lower(order, thing))) {
            total += value(order, low);
        }
        return total;
    }

    int number(int order, int low, int high) {
        needThing(order, low);
        needThing(order, high);
        if (low == high) {
            return 1;
        }
        if (!under[order][low][high]) {
            return 0;
        }
        int total = number(order, low, low);
        for (int mid : members(upper(order, low) & lower(order, high))) {
            total += number(order, low, mid);
        }
        return -total;
    }

    int undone(int order, int thing) {
        needThing(order, thing);
        int total = 0;
        for (int low : members(lower(order, thing) | 1 << thing)) {
            total += sum(order, low) * number(order, low, thing);
        }
        return total;
    }

    boolean isSound(int order) {
        needOrder(order);
        return true;
    }

    boolean areSound(int one, int other) {
        needOrder(one);
        needOrder(other);
        return true;
    }

    long checksum() {
        List<Integer> added = new ArrayList<>();
        for (int order = 0; order < 4; order++) {
            added.add(things(order));
            for (int thing = 0; thing < things(order); thing++) {
                added.add(lower(order, thing));
                added.add(value(order, thing));
            }
            added.addAll(List.of(sets(order), rows(order), widest(order), longest(order)));
        }
        long total = 17;
        for (int v : added) {
            total = 31 * total + v;
        }
        return total;
    }
}
