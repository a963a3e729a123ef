/** Promises 34 to 42: each sentence of theirs that names an edge has a test here. */
public final class ClosedSetsEdgeTest {
    private static final int[] NO_ORDERS = {-1, 4, Edge.LEAST, Edge.MOST};
    private static final int NONE = Belowhouse.NONE;

    public static void main(String[] args) {
        promise34OneToAll();
        promise35NoneToAllThings();
        promise35AnyOtherNumber();
        promise36FirstAndLast();
        promise36NoSuchPlace();
        promise37FirstAndLast();
        promise37NoneIfNotClosed();
        promise38AheadOfTheFirst();
        promise38BehindTheLast();
        promise38ClosedOnesThemselves();
        promise38FromThoseThatAreNotClosed();
        promise38NoSuchWay();
        promise39NoneToAll();
        promise40NoneToAll();
        promise41NoneToAll();
        promise41RefusedIfNotClosed();
        promise42NoneToAll();
        promise42RefusedIfNotAsMany();
        noSuchOrder();
        noSuchSet();
        Due.end("ClosedSetsEdgeTest");
    }

    /** The empty set alone where there are no things; every set of nine apart. */
    private static void promise34OneToAll() {
        int[] due = {1, 2, 4, 3, 3, 8, 10, 18, 20, 512, 10, 10, 130, 22};
        for (int which = 0; which < Edge.SAMPLES; which++) {
            Due.is("sets of " + which, Edge.sample(which).sets(0), due[which]);
        }
    }

    private static void promise35NoneToAllThings() {
        int[] apart = {1, 9, 36, 84, 126, 126, 84, 36, 9, 1};
        int[] fan = {1, 1, 7, 21, 35, 35, 21, 7, 1, 1};
        for (int many = 0; many <= 9; many++) {
            Due.is("sets of " + many + ", apart", Edge.sample(9).setsOf(0, many), apart[many]);
            Due.is("sets of " + many + " in a fan", Edge.sample(12).setsOf(0, many), fan[many]);
            Due.is("sets of " + many + " in a chain", Edge.sample(11).setsOf(0, many), 1);
        }
        Due.is("the empty set of none", Edge.sample(0).setsOf(0, 0), 1);
    }

    /** many: how many, or any other number. */
    private static void promise35AnyOtherNumber() {
        for (int many : new int[] {-1, 10, 32, 33, -31, -32, 256, Edge.LEAST, Edge.MOST}) {
            Edge.leaves("sets of " + many, "0", Edge::world, it -> it.setsOf(2, many));
            Edge.leaves("sets of none, of " + many, "0", Edge::world, it -> it.setsOf(1, many));
        }
        Due.is("one more than there are things", Edge.world().setsOf(0, 5), 0);
        Due.is("one of none", Edge.world().setsOf(1, 1), 0);
    }

    /** place: from 0. */
    private static void promise36FirstAndLast() {
        for (int which = 0; which < Edge.SAMPLES; which++) {
            Belowhouse house = Edge.sample(which);
            int all = (1 << house.things(0)) - 1;
            int sets = house.sets(0);
            Due.is("the first of " + which, house.setAt(0, 0), 0);
            Due.is("the last of " + which, house.setAt(0, sets - 1), all);
        }
    }

    private static void promise36NoSuchPlace() {
        for (int which = 0; which < Edge.SAMPLES; which++) {
            Edge.Maker maker = sampleMaker(which);
            int sets = Edge.sample(which).sets(0);
            for (int place : new int[] {-1, sets, sets + 1, Edge.LEAST, Edge.MOST}) {
                Edge.isThrown("setAt " + place + " in " + which, Due.NO_INDEX, maker, it -> it.setAt(0, place));
            }
        }
    }

    private static Edge.Maker sampleMaker(int which) {
        return () -> Edge.sample(which);
    }

    private static void promise37FirstAndLast() {
        for (int which = 0; which < Edge.SAMPLES; which++) {
            Belowhouse house = Edge.sample(which);
            int all = (1 << house.things(0)) - 1;
            Due.is("the place of the empty set in " + which, house.placeOf(0, 0), 0);
            Due.is("the place of all in " + which, house.placeOf(0, all), house.sets(0) - 1);
        }
        Belowhouse chain = Edge.sample(10);
        for (int many = 0; many <= 9; many++) {
            Due.is("the place of the first " + many, chain.placeOf(0, (1 << many) - 1), many);
        }
    }

    /** NONE if it is not closed. */
    private static void promise37NoneIfNotClosed() {
        Belowhouse chain = Edge.sample(10);
        for (int set = 0; set < 512; set++) {
            // A chain's closed sets are told by one less than a power of 2.
            if (set == 400) {
                chain = Edge.sample(10);
            }
            boolean isClosed = (set & set + 1) == 0;
            Due.is("the place of " + set, chain.placeOf(0, set), isClosed ? Integer.bitCount(set) : NONE);
        }
        Due.is("the last of two, turned", Edge.sample(4).placeOf(0, 2), 1);
        Due.is("the first of two, turned", Edge.sample(4).placeOf(0, 1), NONE);
    }

    /** l the last one ahead of it; NONE if there is none. */
    private static void promise38AheadOfTheFirst() {
        for (int which = 0; which < Edge.SAMPLES; which++) {
            Belowhouse house = Edge.sample(which);
            int sets = house.sets(0);
            Due.is("ahead of the first of " + which, house.near(0, 0, 'l'), NONE);
            Due.is("the first of " + which + " itself", house.near(0, 0, 'f'), 0);
            if (sets > 1) {
                Due.is("ahead of the second of " + which, house.near(0, house.setAt(0, 1), 'l'), 0);
            }
        }
    }

    /** h the first one behind it; NONE if there is none. */
    private static void promise38BehindTheLast() {
        for (int which = 0; which < Edge.SAMPLES; which++) {
            Belowhouse house = Edge.sample(which);
            int sets = house.sets(0);
            int all = (1 << house.things(0)) - 1;
            Due.is("behind the last of " + which, house.near(0, all, 'h'), NONE);
            Due.is("the last of " + which + " itself", house.near(0, all, 'c'), all);
            if (sets > 1) {
                Due.is("behind the last but one of " + which, house.near(0, house.setAt(0, sets - 2), 'h'), all);
            }
        }
    }

    /** f and c tell a closed set itself, l and h the ones beside it. */
    private static void promise38ClosedOnesThemselves() {
        for (int which = 0; which < Edge.SAMPLES; which++) {
            Belowhouse house = Edge.sample(which);
            int sets = Math.min(house.sets(0), 60);
            int ahead = NONE;
            for (int place = 0; place < sets; place++) {
                int set = house.setAt(0, place);
                Due.is("l at " + set + " in " + which, house.near(0, set, 'l'), ahead);
                Due.is("f at " + set + " in " + which, house.near(0, set, 'f'), set);
                Due.is("c at " + set + " in " + which, house.near(0, set, 'c'), set);
                if (ahead != NONE) {
                    Due.is("h at " + ahead + " in " + which, house.near(0, ahead, 'h'), set);
                }
                ahead = set;
            }
        }
    }

    /** From the others f is as l, and c as h: in a chain, the first ones as many as the set has, or one more or less. */
    private static void promise38FromThoseThatAreNotClosed() {
        for (int set = 0; set < 512; set++) {
            if ((set & set + 1) != 0) {
                Belowhouse chain = Edge.sample(10);
                int many = Integer.bitCount(set);
                // The closed set with as many things is the one that is told by the least number.
                int ahead = (1 << many) - 1;
                int behind = (2 << many) - 1;
                Due.is("l at " + set, chain.near(0, set, 'l'), ahead);
                Due.is("f at " + set, chain.near(0, set, 'f'), ahead);
                Due.is("c at " + set, chain.near(0, set, 'c'), behind);
                Due.is("h at " + set, chain.near(0, set, 'h'), behind);
                // Turned round, it is the one that is told by the greatest number.
                chain.turn(0);
                Due.is("l at " + set + ", turned", chain.near(0, set, 'l'), turned(many - 1, set));
                Due.is("c at " + set + ", turned", chain.near(0, set, 'c'), turned(many, set));
            }
        }
    }

    /** The last ones as many as that, or one more or less if that set is on the other side. */
    private static int turned(int many, int set) {
        int last = 512 - (1 << 9 - many);
        if (Integer.bitCount(set) == many + 1) {
            int asMany = 512 - (1 << 8 - many);
            return asMany < set ? asMany : last;
        }
        return last >= set ? last : 512 - (1 << 8 - many);
    }

    /** IllegalArgumentException if there is no such way: every other char. */
    private static void promise38NoSuchWay() {
        Belowhouse house = Edge.world();
        int calls = 0;
        for (int way = 0; way < 65536; way++) {
            if ("lfch".indexOf(way) < 0) {
                // A new object now and then, as each one is asked few times.
                house = calls++ % 400 == 0 ? Edge.world() : house;
                Belowhouse asked = house;
                char it = (char) way;
                Due.is("near by way " + way, Due.outcome(() -> asked.near(2, 0, it)),
                        "throws java.lang.IllegalArgumentException");
            }
        }
        for (char way : new char[] {'L', 'F', 'C', 'H', 'g', 'i', 'k', 'm', 'e', 'b', 'd', 0, 65535}) {
            Edge.isThrown("near by way " + (int) way, Due.NO_ARGUMENT, Edge::world, it -> it.near(0, 3, way));
            Edge.isThrown("near of none, by way " + (int) way, Due.NO_ARGUMENT, Edge::world, it -> it.near(1, 0, way));
        }
        Edge.isThrown("no order, and no way", Due.NO_INDEX, Edge::world, it -> it.near(4, 0, 'x'));
        Edge.isThrown("no set, and no way", Due.NO_ARGUMENT, Edge::world, it -> it.near(0, 16, 'x'));
    }

    /** The least closed set that has all things of a set. */
    private static void promise39NoneToAll() {
        for (int which = 0; which < Edge.SAMPLES; which++) {
            Belowhouse house = Edge.sample(which);
            int many = house.things(0);
            int all = (1 << many) - 1;
            Due.is("closed of the empty set in " + which, house.closed(0, 0), 0);
            Due.is("closed of all in " + which, house.closed(0, all), all);
            for (int thing = 0; thing < many; thing++) {
                int due = house.lower(0, thing) | 1 << thing;
                Due.is("closed of " + thing + " in " + which, house.closed(0, 1 << thing), due);
                Due.is("closed of that in " + which, house.closed(0, due), due);
            }
        }
    }

    /** The greatest closed set all things of which are in a set. */
    private static void promise40NoneToAll() {
        for (int which = 0; which < Edge.SAMPLES; which++) {
            Belowhouse house = Edge.sample(which);
            int many = house.things(0);
            int all = (1 << many) - 1;
            Due.is("inner of the empty set in " + which, house.inner(0, 0), 0);
            Due.is("inner of all in " + which, house.inner(0, all), all);
            for (int thing = 0; thing < many; thing++) {
                int due = all & ~(house.upper(0, thing) | 1 << thing);
                Due.is("inner of all but " + thing + " in " + which, house.inner(0, all - (1 << thing)), due);
                Due.is("inner of that in " + which, house.inner(0, due), due);
                Due.is("inner of " + thing + " alone in " + which, house.inner(0, 1 << thing),
                        house.lower(0, thing) == 0 ? 1 << thing : 0);
            }
        }
    }

    /** Those things of a closed set that are below no other one of it. */
    private static void promise41NoneToAll() {
        for (int which = 0; which < Edge.SAMPLES; which++) {
            Belowhouse house = Edge.sample(which);
            int many = house.things(0);
            Due.is("tops of the empty set in " + which, house.tops(0, 0), 0);
            Due.is("tops of all in " + which, house.tops(0, (1 << many) - 1), house.ends(0, true));
            for (int thing = 0; thing < many; thing++) {
                int set = house.lower(0, thing) | 1 << thing;
                Due.is("tops of all up to " + thing + " in " + which, house.tops(0, set), 1 << thing);
            }
        }
    }

    /** REFUSED if the set is not closed; exceptions go ahead of that. */
    private static void promise41RefusedIfNotClosed() {
        for (int set : new int[] {2, 256, 510, 255 - 1}) {
            Edge.isRefused("tops of " + set, Edge::world, it -> it.tops(2, set));
        }
        Edge.isRefused("tops of the upper one of two", Edge::world, it -> it.tops(3, 2));
        Edge.isRefused("tops of the upper one of two, turned", () -> Edge.sample(4), it -> it.tops(0, 1));
        Edge.isThrown("one that is not there, without all below it", Due.NO_ARGUMENT, Edge::world,
                it -> it.tops(3, 6));
        Edge.isThrown("no order, and not closed", Due.NO_INDEX, Edge::world, it -> it.tops(4, 2));
    }

    private static void promise42NoneToAll() {
        for (int which = 0; which < Edge.SAMPLES; which++) {
            Belowhouse house = Edge.sample(which);
            Due.is("shared by " + which + " and itself", house.shared(0, 0), house.sets(0));
            house.copy(0, 1);
            Due.is("shared by " + which + " and its copy", house.shared(0, 1), house.sets(0));
            house.lay(1, house.things(0));
            Due.is("shared by " + which + " and as many apart", house.shared(1, 0), house.sets(0));
        }
        Belowhouse house = Edge.sample(10);
        Edge.fill(house, 1, 11);
        Due.is("the empty set and all", house.shared(0, 1), 2);
        Due.is("of none: the empty set, which is all", house.shared(2, 3), 1);
    }

    /** REFUSED if they have not as many things. */
    private static void promise42RefusedIfNotAsMany() {
        int[][] unlike = {{0, 1}, {1, 0}, {0, 2}, {2, 1}, {3, 0}, {3, 1}};
        for (int[] both : unlike) {
            Edge.isRefused("shared by " + both[0] + " and " + both[1], Edge::world, it -> it.shared(both[0], both[1]));
        }
        Edge.isThrown("the other is not there", Due.NO_INDEX, Edge::world, it -> it.shared(0, 4));
        Edge.isThrown("the one is not there", Due.NO_INDEX, Edge::world, it -> it.shared(-1, 0));
    }

    private static void noSuchOrder() {
        for (int order : NO_ORDERS) {
            String what = " of order " + order;
            Edge.isThrown("sets" + what, Due.NO_INDEX, Edge::world, it -> it.sets(order));
            Edge.isThrown("setsOf" + what, Due.NO_INDEX, Edge::world, it -> it.setsOf(order, 0));
            Edge.isThrown("setAt" + what, Due.NO_INDEX, Edge::world, it -> it.setAt(order, 0));
            Edge.isThrown("placeOf" + what, Due.NO_INDEX, Edge::world, it -> it.placeOf(order, 0));
            Edge.isThrown("placeOf, no set" + what, Due.NO_INDEX, Edge::world, it -> it.placeOf(order, -1));
            Edge.isThrown("near" + what, Due.NO_INDEX, Edge::world, it -> it.near(order, 0, 'f'));
            Edge.isThrown("near, no set" + what, Due.NO_INDEX, Edge::world, it -> it.near(order, -1, 'f'));
            Edge.isThrown("closed" + what, Due.NO_INDEX, Edge::world, it -> it.closed(order, 0));
            Edge.isThrown("closed, no set" + what, Due.NO_INDEX, Edge::world, it -> it.closed(order, -1));
            Edge.isThrown("inner" + what, Due.NO_INDEX, Edge::world, it -> it.inner(order, 0));
            Edge.isThrown("inner, no set" + what, Due.NO_INDEX, Edge::world, it -> it.inner(order, 512));
            Edge.isThrown("tops" + what, Due.NO_INDEX, Edge::world, it -> it.tops(order, 0));
            Edge.isThrown("tops, no set" + what, Due.NO_INDEX, Edge::world, it -> it.tops(order, 512));
            Edge.isThrown("shared" + what, Due.NO_INDEX, Edge::world, it -> it.shared(order, 0));
            Edge.isThrown("shared, the other" + what, Due.NO_INDEX, Edge::world, it -> it.shared(1, order));
            Edge.isThrown("shared, both" + what, Due.NO_INDEX, Edge::world, it -> it.shared(order, order));
        }
    }

    /** Below 0, or with a thing that there is not. */
    private static void noSuchSet() {
        int[][] unlike = {{0, -1}, {0, 16}, {0, 31}, {1, 1}, {1, -1}, {2, 512}, {2, Edge.MOST}, {2, Edge.LEAST}, {3, 4}};
        for (int[] both : unlike) {
            int order = both[0];
            int set = both[1];
            String what = " of set " + set + " in " + order;
            Edge.isThrown("placeOf" + what, Due.NO_ARGUMENT, Edge::world, it -> it.placeOf(order, set));
            for (char way : "lfch".toCharArray()) {
                Edge.isThrown("near " + way + what, Due.NO_ARGUMENT, Edge::world, it -> it.near(order, set, way));
            }
            Edge.isThrown("closed" + what, Due.NO_ARGUMENT, Edge::world, it -> it.closed(order, set));
            Edge.isThrown("inner" + what, Due.NO_ARGUMENT, Edge::world, it -> it.inner(order, set));
            Edge.isThrown("tops" + what, Due.NO_ARGUMENT, Edge::world, it -> it.tops(order, set));
        }
    }

    private ClosedSetsEdgeTest() {
    }
}
