import java.util.ArrayList;
import java.util.List;

/** (1) to (9) of the terms, looked at by the calls of the face, with orders that are empty, full, a chain, or apart. */
public final class TheoremEdgeTest {
    public static void main(String[] args) {
        for (int which = 0; which < Edge.SAMPLES; which++) {
            noThingIsBelowItself(which);
            putIsRefusedJustIfSameOrAbove(which);
            putIsTheLeastOrder(which);
            looseAndPutLeaveAllAsItWas(which);
            rowsAreWaysByClosedSets(which);
            rowsAreThoseWithoutAGreatest(which);
            belowIsAheadInAllRows(which);
            putLeavesTheRowsWithOneAhead(which);
            fewestCovers(which);
            closedSetsUnitedOrMet(which);
            closedSetsAreAsManyAsAparts(which);
            closedSetIsThatOfItsGreatest(which);
            someThingCanCome(which);
            undoneIsValue(which);
            numbersAre0Together(which);
            turnedRound(which);
            for (int other = 0; other < Edge.SAMPLES; other++) {
                besideAndAbove(which, other);
                meetHasTheRowsAndSetsOfBoth(which, other);
            }
        }
        Due.end("TheoremEdgeTest");
    }

    private static int all(Belowhouse house, int order) {
        return (1 << house.things(order)) - 1;
    }

    /** (1) No thing is below itself. */
    private static void noThingIsBelowItself(int which) {
        Belowhouse house = Edge.sample(which);
        int many = house.things(0);
        for (int thing = 0; thing < many; thing++) {
            Due.is(thing + " below itself in " + which, house.lower(0, thing) & 1 << thing, 0);
            Due.is(thing + " above itself in " + which, house.upper(0, thing) & 1 << thing, 0);
            int it = thing;
            Edge.isRefused("put of " + thing + " below itself in " + which, () -> Edge.sample(which),
                    asked -> asked.put(0, it, it));
        }
    }

    /** (1) put() is refused just if the one thing is the other one, or above it. */
    private static void putIsRefusedJustIfSameOrAbove(int which) {
        int many = Edge.sample(which).things(0);
        for (int low = 0; low < many; low++) {
            for (int high = 0; high < many; high++) {
                Belowhouse house = Edge.sample(which);
                char sign = house.sign(0, low, high);
                boolean isRefused = house.put(0, low, high) == Belowhouse.REFUSED;
                Due.is("put " + low + " " + high + " in " + which + " is refused", isRefused,
                        sign == '=' || sign == '>');
                if (isRefused) {
                    Due.is("all behind it", Edge.look(house), Edge.look(Edge.sample(which)));
                }
            }
        }
    }

    /** (1) Otherwise the order is then the least one that has all pairs that it had, and this one. */
    private static void putIsTheLeastOrder(int which) {
        int many = Edge.sample(which).things(0);
        for (int low = 0; low < many; low++) {
            for (int high = 0; high < many; high++) {
                Belowhouse house = Edge.sample(which);
                char sign = house.sign(0, low, high);
                if (sign == '<' || sign == '|') {
                    int under = house.lower(0, low) | 1 << low;
                    int over = house.upper(0, high) | 1 << high;
                    int[] due = new int[many];
                    int had = house.pairs(0);
                    int has = 0;
                    for (int k = 0; k < many; k++) {
                        due[k] = house.lower(0, k) | ((over & 1 << k) != 0 ? under : 0);
                        has += Integer.bitCount(due[k]);
                    }
                    Due.is("put " + low + " " + high + " in " + which, house.put(0, low, high), has - had);
                    for (int k = 0; k < many; k++) {
                        Due.is("below " + k + " behind it", house.lower(0, k), due[k]);
                    }
                }
            }
        }
    }

    /** (1) A pair that loose() takes away, and that put() brings again at once, leaves the order as it was. */
    private static void looseAndPutLeaveAllAsItWas(int which) {
        int many = Edge.sample(which).things(0);
        String due = Edge.look(Edge.sample(which));
        for (int low = 0; low < many; low++) {
            for (int high = 0; high < many; high++) {
                Belowhouse house = Edge.sample(which);
                int had = house.pairs(0);
                if (house.isNext(0, low, high)) {
                    Due.is("loose " + low + " " + high + " in " + which, house.loose(0, low, high), had - 1);
                    Due.is("put it again", house.put(0, low, high), 1);
                    Due.is("all behind both", Edge.look(house), due);
                }
            }
        }
    }

    /** (2) The rows are as many as the ways by closed sets, each with one thing more; without things there is one. */
    private static void rowsAreWaysByClosedSets(int which) {
        Belowhouse house = Edge.sample(which);
        int all = all(house, 0);
        int rows = house.rows(0);
        int[] ways = new int[all + 1];
        ways[0] = 1;
        for (int set = 1; set <= all; set++) {
            // A new object now and then, as each one is asked few times.
            house = set % 400 == 0 ? Edge.sample(which) : house;
            if (house.placeOf(0, set) >= 0) {
                for (int thing = 0; thing < 9; thing++) {
                    ways[set] += (set & 1 << thing) != 0 ? ways[set - (1 << thing)] : 0;
                }
            }
        }
        Due.is("the ways of " + which, rows, ways[all]);
    }

    /** (2) And, if there are things, as many as the rows without x, for all greatest things x, together. */
    private static void rowsAreThoseWithoutAGreatest(int which) {
        Belowhouse house = Edge.sample(which);
        int many = house.things(0);
        int greatest = house.ends(0, true);
        int found = 0;
        for (int thing = 0; thing < many; thing++) {
            if ((greatest & 1 << thing) != 0) {
                house.copy(0, 1);
                house.drop(1, thing);
                found += house.rows(1);
            }
        }
        Due.is("the rows without a greatest thing of " + which, found, many == 0 ? 0 : house.rows(0));
    }

    /** (3) Below just if ahead in all rows; of two not in order, each one is ahead in some row. */
    private static void belowIsAheadInAllRows(int which) {
        Belowhouse house = Edge.sample(which);
        int many = house.things(0);
        int rows = house.rows(0);
        for (int one = 0; one < many; one++) {
            for (int other = 0; other < many; other++) {
                int ahead = house.rowsWith(0, one, other);
                char due = one == other ? '=' : ahead == rows ? '<' : ahead == 0 ? '>' : '|';
                Due.is(one + " and " + other + " in " + which, house.sign(0, one, other), due);
            }
        }
    }

    /** (3) A put() that is not refused leaves as many rows as had the one thing ahead of the other one. */
    private static void putLeavesTheRowsWithOneAhead(int which) {
        int many = Edge.sample(which).things(0);
        for (int low = 0; low < many; low++) {
            Belowhouse house = Edge.sample(which);
            for (int high = 0; high < many; high++) {
                house.copy(0, 1);
                int due = house.rowsWith(0, low, high);
                if (house.put(1, low, high) != Belowhouse.REFUSED) {
                    Due.is("rows behind put " + low + " " + high + " in " + which, house.rows(1), due);
                }
            }
        }
    }

    /** (4) The fewest chains are as many as the most things apart; the fewest sets apart as the longest chain. */
    private static void fewestCovers(int which) {
        Belowhouse house = Edge.sample(which);
        Due.is("the fewest chains of " + which, house.fewestChains(0), house.widest(0));
        Due.is("the fewest sets apart of " + which, house.fewestAparts(0), house.longest(0));
    }

    private static List<Integer> closedSets(int which) {
        Belowhouse house = Edge.sample(which);
        List<Integer> found = new ArrayList<>();
        int sets = house.sets(0);
        for (int place = 0; place < sets && place < 400; place++) {
            found.add(house.setAt(0, place));
        }
        return found;
    }

    /** (5) Closed sets, united or met, are closed. */
    private static void closedSetsUnitedOrMet(int which) {
        Belowhouse house = Edge.sample(which);
        List<Integer> sets = closedSets(which);
        int step = Math.max(1, sets.size() / 10);
        for (int one = 0; one < sets.size(); one += step) {
            for (int other = one; other < sets.size(); other += step) {
                int united = sets.get(one) | sets.get(other);
                int met = sets.get(one) & sets.get(other);
                Due.isTrue("united in " + which + ": " + united, house.placeOf(0, united) >= 0);
                Due.isTrue("met in " + which + ": " + met, house.placeOf(0, met) >= 0);
            }
        }
    }

    /** (5) They are as many as the sets that are apart. */
    private static void closedSetsAreAsManyAsAparts(int which) {
        Belowhouse house = Edge.sample(which);
        Due.is("closed sets of " + which, house.sets(0), house.aparts(0));
    }

    /** (5) Each is the least closed one that has the greatest of its things; the empty one has none. */
    private static void closedSetIsThatOfItsGreatest(int which) {
        Belowhouse house = Edge.sample(which);
        List<Integer> sets = closedSets(which);
        for (int k = 0; k < sets.size() && k < 200; k++) {
            Due.is("the greatest of " + sets.get(k) + " in " + which, house.closed(0, house.tops(0, sets.get(k))),
                    sets.get(k));
        }
    }

    /** (5) To each that has not all things some thing can come, so that it is closed. */
    private static void someThingCanCome(int which) {
        List<Integer> sets = closedSets(which);
        for (int set : sets) {
            Belowhouse house = Edge.sample(which);
            int many = house.things(0);
            boolean canCome = set == (1 << many) - 1;
            for (int thing = 0; thing < many; thing++) {
                canCome = canCome || (set & 1 << thing) == 0 && house.placeOf(0, set | 1 << thing) >= 0;
            }
            Due.isTrue("some thing comes to " + set + " in " + which, canCome);
        }
    }

    /** (6) undone() is value(), whatever the values. */
    private static void undoneIsValue(int which) {
        Belowhouse house = Edge.sample(which);
        int many = house.things(0);
        for (int thing = 0; thing < many; thing++) {
            house.setValue(0, thing, thing % 2 == 0 ? 1000 - thing : thing - 1000);
        }
        for (int thing = 0; thing < many; thing++) {
            Due.is("undone of " + thing + " in " + which, house.undone(0, thing), house.value(0, thing));
        }
    }

    /** (6) If x is below y, the NUMBERS of x and z, for all z that are x, y or between both, are 0 together. */
    private static void numbersAre0Together(int which) {
        int many = Edge.sample(which).things(0);
        for (int low = 0; low < many; low++) {
            Belowhouse house = Edge.sample(which);
            int upper = house.upper(0, low);
            for (int high = 0; high < many; high++) {
                if ((upper & 1 << high) != 0) {
                    int among = upper & house.lower(0, high) | 1 << low | 1 << high;
                    int total = 0;
                    for (int k = 0; k < many; k++) {
                        total += (among & 1 << k) != 0 ? house.number(0, low, k) : 0;
                    }
                    Due.is("the NUMBERS from " + low + " to " + high + " in " + which, total, 0);
                }
            }
        }
    }

    /** (7) Turned round; and turned twice it is as it was. */
    private static void turnedRound(int which) {
        Belowhouse house = Edge.sample(which);
        house.copy(0, 1);
        house.turn(1);
        Due.is("rows of " + which + ", turned", house.rows(1), house.rows(0));
        Due.is("longest of " + which + ", turned", house.longest(1), house.longest(0));
        Due.is("widest of " + which + ", turned", house.widest(1), house.widest(0));
        int many = house.things(0);
        for (int k = 0; k <= many; k++) {
            Due.is("sets of " + k + " in " + which + ", turned", house.setsOf(1, k), house.setsOf(0, many - k));
        }
        house.turn(1);
        Due.isTrue(which + ", turned twice", house.isSame(0, 1));
        Due.is("all of it", Due.order(house, 1), Due.order(house, 0));
    }

    private static int waysToChoose(int some, int all) {
        return some == 0 || some == all ? 1 : waysToChoose(some - 1, all - 1) + waysToChoose(some, all - 1);
    }

    /** (8) Two orders side by side, and one above the other; one of them, or both, may have no things. */
    private static void besideAndAbove(int one, int other) {
        Belowhouse house = new Belowhouse();
        Edge.fill(house, 0, one);
        Edge.fill(house, 1, other);
        int first = house.things(0);
        int many = first + house.things(1);
        if (many > 9) {
            return;
        }
        String what = one + " and " + other;
        house.beside(0, 1, 2);
        house.above(0, 1, 3);
        int rows = house.rows(0) * house.rows(1);
        Due.is("rows beside of " + what, house.rows(2), rows * waysToChoose(first, many));
        Due.is("rows above of " + what, house.rows(3), rows);
        Due.is("sets beside of " + what, house.sets(2), house.sets(0) * house.sets(1));
        Due.is("sets above of " + what, house.sets(3), house.sets(0) + house.sets(1) - 1);
        Due.is("widest beside of " + what, house.widest(2), house.widest(0) + house.widest(1));
        Due.is("widest above of " + what, house.widest(3), Math.max(house.widest(0), house.widest(1)));
        Due.is("longest beside of " + what, house.longest(2), Math.max(house.longest(0), house.longest(1)));
        Due.is("longest above of " + what, house.longest(3), house.longest(0) + house.longest(1));
        Due.isTrue("areSound of " + what, house.areSound(0, 1));
    }

    /** (9) Behind a meet() that is not refused each row, and each closed set, of one of both is one of the common. */
    private static void meetHasTheRowsAndSetsOfBoth(int one, int other) {
        Belowhouse house = new Belowhouse();
        Edge.fill(house, 0, one);
        Edge.fill(house, 1, other);
        if (house.meet(0, 1, 2) == Belowhouse.REFUSED) {
            Due.isTrue(one + " and " + other + " have not as many things", house.things(0) != house.things(1));
            return;
        }
        String what = " of " + one + " and " + other;
        for (int order = 0; order < 2; order++) {
            int rows = Math.min(40, house.rows(order));
            for (int place = 0; place < rows; place++) {
                int row = house.rowAt(order, place);
                Due.isTrue("row " + row + what, house.rowPlace(2, row) >= 0);
            }
            int sets = Math.min(40, house.sets(order));
            for (int place = 0; place < sets; place++) {
                int set = house.setAt(order, place);
                Due.isTrue("set " + set + what, house.placeOf(2, set) >= 0);
            }
        }
    }

    private TheoremEdgeTest() {
    }
}
