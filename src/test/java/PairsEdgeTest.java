/** Promises 16 to 25: each sentence of theirs that names an edge has a test here. */
public final class PairsEdgeTest {
    private static final int[] NO_ORDERS = {-1, 4, Edge.LEAST, Edge.MOST};

    public static void main(String[] args) {
        promise16NoneToNine();
        promise17NoneToAll();
        promise18NoneToMost();
        promise18NotThroughAnother();
        promise19EachSign();
        promise20NextOrNot();
        promise21LowerOfTheEnds();
        promise22UpperOfTheEnds();
        promise23AllNoneOrOne();
        promise24LeastAndGreatest();
        promise25WhateverTheirValues();
        promise25AsManyThings();
        promise25TheSamePairs();
        noSuchOrder();
        noSuchThing();
        Due.end("PairsEdgeTest");
    }

    private static void promise16NoneToNine() {
        for (int many = 0; many <= 9; many++) {
            Belowhouse house = new Belowhouse();
            house.lay(3, many);
            Due.is("things of " + many, house.things(3), many);
            Due.is("of another order", house.things(2), 0);
        }
    }

    private static void promise17NoneToAll() {
        int[] due = {0, 0, 0, 1, 1, 3, 12, 6, 27, 0, 36, 36, 15, 27};
        for (int which = 0; which < Edge.SAMPLES; which++) {
            Due.is("pairs of " + which, Edge.sample(which).pairs(0), due[which]);
        }
    }

    private static void promise18NoneToMost() {
        int[] due = {0, 0, 0, 1, 1, 3, 7, 6, 12, 0, 8, 8, 14, 18};
        for (int which = 0; which < Edge.SAMPLES; which++) {
            Due.is("nexts of " + which, Edge.sample(which).nexts(0), due[which]);
        }
        // Four below five is as many as there can be.
        Belowhouse house = new Belowhouse();
        house.lay(0, 4);
        house.lay(1, 5);
        house.above(0, 1, 2);
        Due.is("the most nexts", house.nexts(2), 20);
    }

    private static void promise18NotThroughAnother() {
        Belowhouse house = new Belowhouse();
        house.lay(0, 3);
        house.put(0, 0, 2);
        Due.is("one pair", house.nexts(0), 1);
        house.put(0, 0, 1);
        Due.is("two pairs", house.nexts(0), 2);
        house.put(0, 1, 2);
        Due.is("three pairs, of which one is no next one", house.nexts(0), 2);
        Due.is("pairs", house.pairs(0), 3);
    }

    /** = if both are the same, < below, > above, else |. */
    private static void promise19EachSign() {
        for (int which : new int[] {10, 11}) {
            Belowhouse house = Edge.sample(which);
            for (int one = 0; one < 9; one++) {
                for (int other = 0; other < 9; other++) {
                    char due = one == other ? '=' : (one < other) == (which == 10) ? '<' : '>';
                    Due.is(one + " and " + other + " in " + which, house.sign(0, one, other), due);
                }
            }
        }
        Belowhouse apart = Edge.sample(9);
        Due.is("the first and the last, apart", apart.sign(0, 0, 8), '|');
        Due.is("the last and the first, apart", apart.sign(0, 8, 0), '|');
        Due.is("the last and itself", apart.sign(0, 8, 8), '=');
        Due.is("the one of one", Edge.sample(1).sign(0, 0, 0), '=');
    }

    private static void promise20NextOrNot() {
        Belowhouse house = Edge.sample(8);
        Due.isTrue("the first two", house.isNext(0, 0, 1));
        Due.isTrue("the last two", house.isNext(0, 7, 8));
        Due.isFalse("one between", house.isNext(0, 0, 2));
        Due.isFalse("two between, apart", house.isNext(0, 0, 4));
        Due.isFalse("all between", house.isNext(0, 0, 8));
        Due.isFalse("above", house.isNext(0, 1, 0));
        Due.isFalse("apart", house.isNext(0, 1, 3));
        Due.isFalse("the same", house.isNext(0, 8, 8));
    }

    private static void promise21LowerOfTheEnds() {
        Belowhouse house = Edge.sample(12);
        Due.is("below the least", house.lower(0, 0), 0);
        Due.is("below one of the middle", house.lower(0, 7), 1);
        Due.is("below the greatest", house.lower(0, 8), 255);
        Due.is("below the first of a chain, turned", Edge.sample(11).lower(0, 0), 510);
        Due.is("below one of nine apart", Edge.sample(9).lower(0, 8), 0);
        Due.is("below the one of one", Edge.sample(1).lower(0, 0), 0);
    }

    private static void promise22UpperOfTheEnds() {
        Belowhouse house = Edge.sample(12);
        Due.is("above the least", house.upper(0, 0), 510);
        Due.is("above one of the middle", house.upper(0, 1), 256);
        Due.is("above the greatest", house.upper(0, 8), 0);
        Due.is("above the last of a chain, turned", Edge.sample(11).upper(0, 8), 255);
        Due.is("above one of nine apart", Edge.sample(9).upper(0, 0), 0);
        Due.is("above the one of one", Edge.sample(1).upper(0, 0), 0);
    }

    /** The greatest things, above which there are none, or the least ones, below which there are none. */
    private static void promise23AllNoneOrOne() {
        int[] greatest = {0, 1, 3, 2, 1, 12, 32, 56, 256, 511, 256, 1, 256, 448};
        int[] least = {0, 1, 3, 1, 2, 3, 1, 7, 1, 511, 1, 256, 1, 7};
        for (int which = 0; which < Edge.SAMPLES; which++) {
            Due.is("the greatest of " + which, Edge.sample(which).ends(0, true), greatest[which]);
            Due.is("the least of " + which, Edge.sample(which).ends(0, false), least[which]);
        }
    }

    private static void promise24LeastAndGreatest() {
        Belowhouse house = Edge.world();
        Due.is("the least", house.value(2, 0), -1000);
        Due.is("the greatest", house.value(2, 8), 1000);
        Due.is("the greatest of two", house.value(3, 0), 1000);
        Due.is("the least of two", house.value(3, 1), -1000);
        house.add(1, 1000);
        Due.is("the one of one", house.value(1, 0), 1000);
    }

    /** Whatever their values. */
    private static void promise25WhateverTheirValues() {
        Belowhouse house = Edge.world();
        house.copy(2, 3);
        house.setValue(3, 8, -1000);
        house.setValue(3, 0, 1000);
        Due.isTrue("other values", house.isSame(2, 3));
        Due.isTrue("and the other way", house.isSame(3, 2));
        Due.isTrue("with itself", house.isSame(3, 3));
    }

    /** As many things: none, or one more, apart. */
    private static void promise25AsManyThings() {
        for (int first = 0; first <= 9; first++) {
            Belowhouse house = new Belowhouse();
            house.lay(0, first);
            for (int second = 0; second <= 9; second++) {
                house.lay(1, second);
                Due.is(first + " things and " + second, house.isSame(0, 1), first == second);
            }
        }
        Belowhouse house = Edge.sample(10);
        house.copy(0, 1);
        house.drop(1, 8);
        Due.isFalse("a thing less", house.isSame(0, 1));
        Due.isFalse("a thing more", house.isSame(1, 0));
    }

    /** The same pairs: one less is enough for another order, and so is the other way round. */
    private static void promise25TheSamePairs() {
        Belowhouse house = Edge.sample(10);
        for (int low = 0; low < 8; low++) {
            house.copy(0, 1);
            house.loose(1, low, low + 1);
            Due.isFalse("a pair less", house.isSame(0, 1));
            Due.isFalse("a pair more", house.isSame(1, 0));
            house.put(1, low, low + 1);
            Due.isTrue("the pair is there again", house.isSame(0, 1));
        }
        house.copy(0, 1);
        house.turn(1);
        Due.isFalse("as many pairs, the other way", house.isSame(0, 1));
    }

    private static void noSuchOrder() {
        for (int order : NO_ORDERS) {
            String what = " of order " + order;
            Edge.isThrown("things" + what, Due.NO_INDEX, Edge::world, it -> it.things(order));
            Edge.isThrown("pairs" + what, Due.NO_INDEX, Edge::world, it -> it.pairs(order));
            Edge.isThrown("nexts" + what, Due.NO_INDEX, Edge::world, it -> it.nexts(order));
            Edge.isThrown("sign" + what, Due.NO_INDEX, Edge::world, it -> it.sign(order, 0, 0));
            Edge.isThrown("isNext" + what, Due.NO_INDEX, Edge::world, it -> it.isNext(order, 0, 1));
            Edge.isThrown("lower" + what, Due.NO_INDEX, Edge::world, it -> it.lower(order, 0));
            Edge.isThrown("upper" + what, Due.NO_INDEX, Edge::world, it -> it.upper(order, 0));
            Edge.isThrown("greatest" + what, Due.NO_INDEX, Edge::world, it -> it.ends(order, true));
            Edge.isThrown("least" + what, Due.NO_INDEX, Edge::world, it -> it.ends(order, false));
            Edge.isThrown("value" + what, Due.NO_INDEX, Edge::world, it -> it.value(order, 0));
            Edge.isThrown("isSame" + what, Due.NO_INDEX, Edge::world, it -> it.isSame(order, 0));
            Edge.isThrown("isSame, the other" + what, Due.NO_INDEX, Edge::world, it -> it.isSame(0, order));
            Edge.isThrown("isSame, both" + what, Due.NO_INDEX, Edge::world, it -> it.isSame(order, order));
        }
    }

    /** Ahead of the first thing, behind the last one, and any where none are. */
    private static void noSuchThing() {
        int[][] unlike = {{0, -1}, {0, 4}, {1, 0}, {1, -1}, {2, 9}, {2, -1}, {3, 2}, {3, Edge.MOST}, {3, Edge.LEAST}};
        for (int[] both : unlike) {
            int order = both[0];
            int thing = both[1];
            String what = " of thing " + thing + " in " + order;
            Edge.isThrown("sign" + what, Due.NO_INDEX, Edge::world, it -> it.sign(order, thing, 0));
            Edge.isThrown("sign, the other" + what, Due.NO_INDEX, Edge::world, it -> it.sign(order, 0, thing));
            Edge.isThrown("sign, both" + what, Due.NO_INDEX, Edge::world, it -> it.sign(order, thing, thing));
            Edge.isThrown("isNext" + what, Due.NO_INDEX, Edge::world, it -> it.isNext(order, thing, 0));
            Edge.isThrown("isNext, the other" + what, Due.NO_INDEX, Edge::world, it -> it.isNext(order, 0, thing));
            Edge.isThrown("lower" + what, Due.NO_INDEX, Edge::world, it -> it.lower(order, thing));
            Edge.isThrown("upper" + what, Due.NO_INDEX, Edge::world, it -> it.upper(order, thing));
            Edge.isThrown("value" + what, Due.NO_INDEX, Edge::world, it -> it.value(order, thing));
        }
    }

    private PairsEdgeTest() {
    }
}
