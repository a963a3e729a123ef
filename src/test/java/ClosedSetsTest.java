/** Promises 34 to 42: sets closed below. */
public final class ClosedSetsTest {
    /** The closed sets of the letter N, in their sequence. */
    private static final int[] OF_N = {0, 1, 2, 3, 10, 7, 11, 15};

    public static void main(String[] args) {
        promise34Sets();
        promise35SetsOf();
        promise36SetAt();
        promise37PlaceOf();
        promise38Near();
        promise39Closed();
        promise40Inner();
        promise41Tops();
        promise42Shared();
        Due.end("ClosedSetsTest");
    }

    private static void promise34Sets() {
        Belowhouse house = Due.letterN();
        house.lay(2, 9);
        house.chain(3, 9);
        Due.is("sets(0)", house.sets(0), 8);
        Due.is("sets(1)", house.sets(1), 1);
        Due.is("sets(2)", house.sets(2), 512);
        Due.is("sets(3)", house.sets(3), 10);
        Due.isThrown("sets(4)", Due.NO_INDEX, house, () -> house.sets(4));
        Due.isThrown("sets(-1)", Due.NO_INDEX, house, () -> house.sets(-1));
    }

    private static void promise35SetsOf() {
        Belowhouse house = Due.letterN();
        int[] due = {1, 2, 2, 2, 1};
        for (int many = 0; many < due.length; many++) {
            Due.is("sets of " + many, house.setsOf(0, many), due[many]);
        }
        Due.is("sets of 5", house.setsOf(0, 5), 0);
        Due.is("sets of -1", house.setsOf(0, -1), 0);
        Due.is("sets of the greatest int", house.setsOf(0, Integer.MAX_VALUE), 0);
        Due.is("sets of the least int", house.setsOf(0, Integer.MIN_VALUE), 0);
        Due.is("sets of 0 of none", house.setsOf(1, 0), 1);
        Due.isThrown("setsOf(4, 0)", Due.NO_INDEX, house, () -> house.setsOf(4, 0));
        Due.isThrown("setsOf(-1, 0)", Due.NO_INDEX, house, () -> house.setsOf(-1, 0));
    }

    private static void promise36SetAt() {
        Belowhouse house = Due.letterN();
        for (int place = 0; place < OF_N.length; place++) {
            Due.is("set at " + place, house.setAt(0, place), OF_N[place]);
        }
        Due.is("the set of none", house.setAt(1, 0), 0);
        Due.isThrown("setAt(0, 8)", Due.NO_INDEX, house, () -> house.setAt(0, 8));
        Due.isThrown("setAt(0, -1)", Due.NO_INDEX, house, () -> house.setAt(0, -1));
        Due.isThrown("setAt(1, 1)", Due.NO_INDEX, house, () -> house.setAt(1, 1));
        Due.isThrown("setAt(4, 0)", Due.NO_INDEX, house, () -> house.setAt(4, 0));
        house.lay(2, 9);
        Due.is("the last of 512", house.setAt(2, 511), 511);
        Due.is("the first with two", house.setAt(2, 10), 3);
    }

    private static void promise37PlaceOf() {
        Belowhouse house = Due.letterN();
        for (int place = 0; place < OF_N.length; place++) {
            Due.is("place of " + OF_N[place], house.placeOf(0, OF_N[place]), place);
        }
        Due.is("not closed", house.placeOf(0, 4), -1);
        Due.is("not closed either", house.placeOf(0, 14), -1);
        Due.isThrown("placeOf(0, 16)", Due.NO_ARGUMENT, house, () -> house.placeOf(0, 16));
        Due.isThrown("placeOf(0, -1)", Due.NO_ARGUMENT, house, () -> house.placeOf(0, -1));
        Due.isThrown("placeOf(4, 16)", Due.NO_INDEX, house, () -> house.placeOf(4, 16));
        Due.isThrown("placeOf(1, 1)", Due.NO_ARGUMENT, house, () -> house.placeOf(1, 1));
    }

    private static void promise38Near() {
        Belowhouse house = Due.letterN();
        Due.is("ahead of a closed one", house.near(0, 10, 'l'), 3);
        Due.is("a closed one, f", house.near(0, 10, 'f'), 10);
        Due.is("a closed one, c", house.near(0, 10, 'c'), 10);
        Due.is("behind a closed one", house.near(0, 10, 'h'), 7);
        // 4 has one thing and comes behind 2; 3 is the first with two.
        Due.is("ahead of another", house.near(0, 4, 'l'), 2);
        Due.is("another, f", house.near(0, 4, 'f'), 2);
        Due.is("another, c", house.near(0, 4, 'c'), 3);
        Due.is("behind another", house.near(0, 4, 'h'), 3);
        Due.is("ahead of the first", house.near(0, 0, 'l'), -1);
        Due.is("the first, f", house.near(0, 0, 'f'), 0);
        Due.is("the last, c", house.near(0, 15, 'c'), 15);
        Due.is("behind the last", house.near(0, 15, 'h'), -1);
        Due.is("12 comes behind 10, and 7 has three", house.near(0, 12, 'c'), 7);
        Due.is("9 comes ahead of 10, though 7 is the lesser number", house.near(0, 9, 'h'), 10);
        Due.is("and c", house.near(0, 9, 'c'), 10);
        Due.is("ahead of 7 comes 10", house.near(0, 7, 'l'), 10);
        Due.is("ahead of 1 come none", house.near(0, 1, 'l'), 0);
        Due.is("ahead of none of none", house.near(1, 0, 'l'), -1);
        Due.is("none of none", house.near(1, 0, 'c'), 0);
        Due.isThrown("near(0, 3, 'L')", Due.NO_ARGUMENT, house, () -> house.near(0, 3, 'L'));
        Due.isThrown("near(0, 3, 0)", Due.NO_ARGUMENT, house, () -> house.near(0, 3, (char) 0));
        Due.isThrown("near(0, 3, 65535)", Due.NO_ARGUMENT, house, () -> house.near(0, 3, (char) 65535));
        Due.isThrown("near(0, 16, 'l')", Due.NO_ARGUMENT, house, () -> house.near(0, 16, 'l'));
        Due.isThrown("near(0, -1, 'l')", Due.NO_ARGUMENT, house, () -> house.near(0, -1, 'l'));
        Due.isThrown("near(4, -1, 'x')", Due.NO_INDEX, house, () -> house.near(4, -1, 'x'));
    }

    private static void promise39Closed() {
        Belowhouse house = Due.divisors();
        Due.is("with 6", house.closed(0, 16), 16 + 7);
        Due.is("with 3 and 4", house.closed(0, 12), 15);
        Due.is("with none", house.closed(0, 0), 0);
        Due.is("with all", house.closed(0, 63), 63);
        Due.isThrown("closed(0, 64)", Due.NO_ARGUMENT, house, () -> house.closed(0, 64));
        Due.isThrown("closed(0, -1)", Due.NO_ARGUMENT, house, () -> house.closed(0, -1));
        Due.isThrown("closed(4, 64)", Due.NO_INDEX, house, () -> house.closed(4, 64));
    }

    private static void promise40Inner() {
        Belowhouse house = Due.divisors();
        Due.is("without 1", house.inner(0, 62), 0);
        Due.is("without 2", house.inner(0, 61), 5);
        Due.is("without 6", house.inner(0, 47), 15);
        Due.is("all", house.inner(0, 63), 63);
        Due.is("none", house.inner(0, 0), 0);
        Due.isThrown("inner(0, 64)", Due.NO_ARGUMENT, house, () -> house.inner(0, 64));
        Due.isThrown("inner(0, -1)", Due.NO_ARGUMENT, house, () -> house.inner(0, -1));
        Due.isThrown("inner(-1, 64)", Due.NO_INDEX, house, () -> house.inner(-1, 64));
    }

    private static void promise41Tops() {
        Belowhouse house = Due.divisors();
        Due.is("of 1, 2, 3, 4", house.tops(0, 15), 12);
        Due.is("of 1, 2, 3, 4, 6", house.tops(0, 31), 24);
        Due.is("of all", house.tops(0, 63), 32);
        Due.is("of none", house.tops(0, 0), 0);
        Due.isRefused("tops(0, 2)", house, () -> house.tops(0, 2));
        Due.isRefused("tops(0, 46)", house, () -> house.tops(0, 46));
        Due.isThrown("tops(0, 64)", Due.NO_ARGUMENT, house, () -> house.tops(0, 64));
        Due.isThrown("tops(0, -1)", Due.NO_ARGUMENT, house, () -> house.tops(0, -1));
        Due.isThrown("tops(4, -1)", Due.NO_INDEX, house, () -> house.tops(4, -1));
    }

    private static void promise42Shared() {
        Belowhouse house = Due.letterN();
        house.chain(1, 4);
        house.lay(2, 4);
        Due.is("with a chain: 0, 1, 3, 7, 15", house.shared(0, 1), 5);
        Due.is("the same turned", house.shared(1, 0), 5);
        Due.is("with things apart", house.shared(0, 2), 8);
        Due.is("with itself", house.shared(0, 0), 8);
        Due.is("without things", house.shared(3, 3), 1);
        Due.isRefused("shared(0, 3)", house, () -> house.shared(0, 3));
        Due.isRefused("shared(3, 0)", house, () -> house.shared(3, 0));
        Due.isThrown("shared(0, 4)", Due.NO_INDEX, house, () -> house.shared(0, 4));
        Due.isThrown("shared(-1, 0)", Due.NO_INDEX, house, () -> house.shared(-1, 0));
    }

    private ClosedSetsTest() {
    }
}
