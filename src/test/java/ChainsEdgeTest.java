/** Promises 26 to 33: each sentence of theirs that names an edge has a test here. */
public final class ChainsEdgeTest {
    private static final int[] NO_ORDERS = {-1, 4, Edge.LEAST, Edge.MOST};

    public static void main(String[] args) {
        promise26AllOfNine();
        promise26OnePairShort();
        promise27AllOfNine();
        promise27OnePairIsEnough();
        promise28FirstToNinth();
        promise28NotItsNumber();
        promise29NoneToNine();
        promise30NoneToNine();
        promise31NoneToNine();
        promise31ChainsNeedNotBeNext();
        promise32NoneToNine();
        promise33NoneToAll();
        noSuchOrder();
        noSuchSet();
        noSuchThing();
        Due.end("ChainsEdgeTest");
    }

    private static void promise26AllOfNine() {
        Due.isTrue("all of a chain", Edge.sample(10).isChain(0, 511));
        Due.isTrue("all of a chain, turned", Edge.sample(11).isChain(0, 511));
        Due.isTrue("the first and the last", Edge.sample(10).isChain(0, 257));
        Due.isFalse("all of nine apart", Edge.sample(9).isChain(0, 511));
        Due.isTrue("the empty set of none", Edge.sample(0).isChain(0, 0));
        Due.isTrue("the one of one", Edge.sample(1).isChain(0, 1));
    }

    /** A chain if each two of its things are in order: two that are not are enough for it to be none. */
    private static void promise26OnePairShort() {
        for (int low = 0; low < 8; low++) {
            Belowhouse house = Edge.sample(10);
            house.loose(0, low, low + 1);
            Due.isFalse("all behind loose " + low, house.isChain(0, 511));
            Due.isTrue("all but one", house.isChain(0, 511 - (1 << low)));
            Due.isTrue("all but the other one", house.isChain(0, 511 - (2 << low)));
        }
    }

    private static void promise27AllOfNine() {
        Due.isTrue("all of nine apart", Edge.sample(9).isApart(0, 511));
        Due.isFalse("all of a chain", Edge.sample(10).isApart(0, 511));
        Due.isFalse("the first and the last of a chain", Edge.sample(11).isApart(0, 257));
        Due.isTrue("the empty set of none", Edge.sample(0).isApart(0, 0));
        Due.isTrue("the one of one", Edge.sample(1).isApart(0, 1));
    }

    /** Apart if no two of them are in order: one pair is enough for it not to be. */
    private static void promise27OnePairIsEnough() {
        for (int low = 0; low < 9; low++) {
            int high = (low + 4) % 9;
            Belowhouse house = Edge.sample(9);
            house.put(0, low, high);
            Due.isFalse("all behind put " + low, house.isApart(0, 511));
            Due.isFalse("the two", house.isApart(0, 1 << low | 1 << high));
            Due.isTrue("all but one", house.isApart(0, 511 - (1 << low)));
            Due.isTrue("all but the other one", house.isApart(0, 511 - (1 << high)));
        }
    }

    /** How many things the longest chain has of which it is the greatest one, itself too. */
    private static void promise28FirstToNinth() {
        for (int thing = 0; thing < 9; thing++) {
            Due.is("level in a chain", Edge.sample(10).level(0, thing), thing + 1);
            Due.is("level in a chain, turned", Edge.sample(11).level(0, thing), 9 - thing);
            Due.is("level of one apart", Edge.sample(9).level(0, thing), 1);
        }
        Due.is("level of the one of one", Edge.sample(1).level(0, 0), 1);
    }

    /** The longest of the chains below it counts, not how many things are below it. */
    private static void promise28NotItsNumber() {
        int[] due = {1, 2, 2, 2, 2, 2, 2, 2, 3};
        for (int thing = 0; thing < 9; thing++) {
            Due.is("level in a fan", Edge.sample(12).level(0, thing), due[thing]);
        }
    }

    private static void same(String what, int[] due, Edge.Call call) {
        for (int which = 0; which < Edge.SAMPLES; which++) {
            Due.is(what + " of " + which, call.on(Edge.sample(which)), due[which]);
        }
    }

    private static void promise29NoneToNine() {
        same("longest", new int[] {0, 1, 1, 2, 2, 2, 4, 2, 5, 1, 9, 9, 3, 3}, it -> it.longest(0));
    }

    private static void promise30NoneToNine() {
        same("widest", new int[] {0, 1, 2, 1, 1, 2, 2, 3, 3, 9, 1, 1, 7, 3}, it -> it.widest(0));
    }

    private static void promise31NoneToNine() {
        same("fewestChains", new int[] {0, 1, 2, 1, 1, 2, 2, 3, 3, 9, 1, 1, 7, 3}, it -> it.fewestChains(0));
    }

    /** A chain's things need not be next to one another: it may go past a thing that another chain needs. */
    private static void promise31ChainsNeedNotBeNext() {
        Belowhouse house = new Belowhouse();
        house.lay(0, 5);
        house.put(0, 0, 2);
        house.put(0, 1, 2);
        house.put(0, 2, 3);
        house.put(0, 2, 4);
        Due.is("two below one below two", house.fewestChains(0), 2);
        Due.is("apart there", house.fewestAparts(0), 3);
    }

    private static void promise32NoneToNine() {
        same("fewestAparts", new int[] {0, 1, 1, 2, 2, 2, 4, 2, 5, 1, 9, 9, 3, 3}, it -> it.fewestAparts(0));
    }

    /** The empty set is apart, and each thing alone: so there is one of none, and one more than the things of a chain. */
    private static void promise33NoneToAll() {
        same("aparts", new int[] {1, 2, 4, 3, 3, 8, 10, 18, 20, 512, 10, 10, 130, 22}, it -> it.aparts(0));
    }

    private static void noSuchOrder() {
        for (int order : NO_ORDERS) {
            String what = " of order " + order;
            Edge.isThrown("isChain" + what, Due.NO_INDEX, Edge::world, it -> it.isChain(order, 0));
            Edge.isThrown("isChain, no set" + what, Due.NO_INDEX, Edge::world, it -> it.isChain(order, -1));
            Edge.isThrown("isApart" + what, Due.NO_INDEX, Edge::world, it -> it.isApart(order, 0));
            Edge.isThrown("isApart, no set" + what, Due.NO_INDEX, Edge::world, it -> it.isApart(order, 512));
            Edge.isThrown("level" + what, Due.NO_INDEX, Edge::world, it -> it.level(order, 0));
            Edge.isThrown("longest" + what, Due.NO_INDEX, Edge::world, it -> it.longest(order));
            Edge.isThrown("widest" + what, Due.NO_INDEX, Edge::world, it -> it.widest(order));
            Edge.isThrown("fewestChains" + what, Due.NO_INDEX, Edge::world, it -> it.fewestChains(order));
            Edge.isThrown("fewestAparts" + what, Due.NO_INDEX, Edge::world, it -> it.fewestAparts(order));
            Edge.isThrown("aparts" + what, Due.NO_INDEX, Edge::world, it -> it.aparts(order));
        }
    }

    /** Below 0, or with a thing that there is not. */
    private static void noSuchSet() {
        int[][] unlike = {{0, -1}, {0, 16}, {0, 31}, {1, 1}, {1, -1}, {2, 512}, {2, Edge.MOST}, {2, Edge.LEAST}, {3, 4}};
        for (int[] both : unlike) {
            int order = both[0];
            int set = both[1];
            String what = " of set " + set + " in " + order;
            Edge.isThrown("isChain" + what, Due.NO_ARGUMENT, Edge::world, it -> it.isChain(order, set));
            Edge.isThrown("isApart" + what, Due.NO_ARGUMENT, Edge::world, it -> it.isApart(order, set));
        }
    }

    private static void noSuchThing() {
        int[][] unlike = {{0, -1}, {0, 4}, {1, 0}, {2, 9}, {2, Edge.MOST}, {3, Edge.LEAST}};
        for (int[] both : unlike) {
            Edge.isThrown("level of thing " + both[1] + " in " + both[0], Due.NO_INDEX, Edge::world,
                    it -> it.level(both[0], both[1]));
        }
    }

    private ChainsEdgeTest() {
    }
}
