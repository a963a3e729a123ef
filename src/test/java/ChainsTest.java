/** Promises 26 to 33: chains, and things apart. */
public final class ChainsTest {
    public static void main(String[] args) {
        promise26IsChain();
        promise27IsApart();
        promise28Level();
        promise29Longest();
        promise30Widest();
        promise31FewestChains();
        promise32FewestAparts();
        promise33Aparts();
        Due.end("ChainsTest");
    }

    private static void promise26IsChain() {
        Belowhouse house = Due.divisors();
        Due.isTrue("1, 2, 6, 12", house.isChain(0, 1 + 2 + 16 + 32));
        Due.isTrue("1 and 12", house.isChain(0, 33));
        Due.isTrue("none", house.isChain(0, 0));
        Due.isTrue("one", house.isChain(0, 8));
        Due.isFalse("4 and 6", house.isChain(0, 24));
        Due.isFalse("1, 2 and 3", house.isChain(0, 7));
        Due.isFalse("all", house.isChain(0, 63));
        Due.isTrue("none of none", house.isChain(1, 0));
        Due.isThrown("isChain(0, 64)", Due.NO_ARGUMENT, house, () -> house.isChain(0, 64));
        Due.isThrown("isChain(0, -1)", Due.NO_ARGUMENT, house, () -> house.isChain(0, -1));
        Due.isThrown("isChain(4, -1)", Due.NO_INDEX, house, () -> house.isChain(4, -1));
    }

    private static void promise27IsApart() {
        Belowhouse house = Due.divisors();
        Due.isTrue("4 and 6", house.isApart(0, 24));
        Due.isTrue("3 and 4", house.isApart(0, 12));
        Due.isTrue("none", house.isApart(0, 0));
        Due.isTrue("one", house.isApart(0, 32));
        Due.isFalse("3, 4 and 6", house.isApart(0, 28));
        Due.isFalse("1 and 12", house.isApart(0, 33));
        Due.isTrue("none of none", house.isApart(1, 0));
        Due.isThrown("isApart(0, 64)", Due.NO_ARGUMENT, house, () -> house.isApart(0, 64));
        Due.isThrown("isApart(0, -1)", Due.NO_ARGUMENT, house, () -> house.isApart(0, -1));
        Due.isThrown("isApart(-1, 64)", Due.NO_INDEX, house, () -> house.isApart(-1, 64));
    }

    private static void promise28Level() {
        Belowhouse house = Due.divisors();
        int[] due = {1, 2, 2, 3, 3, 4};
        for (int thing = 0; thing < due.length; thing++) {
            Due.is("level of " + thing, house.level(0, thing), due[thing]);
        }
        Due.isThrown("level(0, 6)", Due.NO_INDEX, house, () -> house.level(0, 6));
        Due.isThrown("level(0, -1)", Due.NO_INDEX, house, () -> house.level(0, -1));
        Due.isThrown("level(4, 0)", Due.NO_INDEX, house, () -> house.level(4, 0));
    }

    private static void promise29Longest() {
        Belowhouse house = Due.divisors();
        house.lay(2, 9);
        house.chain(3, 9);
        Due.is("longest(0)", house.longest(0), 4);
        Due.is("longest(1)", house.longest(1), 0);
        Due.is("longest(2)", house.longest(2), 1);
        Due.is("longest(3)", house.longest(3), 9);
        Due.isThrown("longest(4)", Due.NO_INDEX, house, () -> house.longest(4));
        Due.isThrown("longest(-1)", Due.NO_INDEX, house, () -> house.longest(-1));
    }

    private static void promise30Widest() {
        Belowhouse house = Due.divisors();
        house.lay(2, 9);
        house.chain(3, 9);
        Due.is("widest(0)", house.widest(0), 2);
        Due.is("widest(1)", house.widest(1), 0);
        Due.is("widest(2)", house.widest(2), 9);
        Due.is("widest(3)", house.widest(3), 1);
        Due.isThrown("widest(4)", Due.NO_INDEX, house, () -> house.widest(4));
        Due.isThrown("widest(-1)", Due.NO_INDEX, house, () -> house.widest(-1));
    }

    /** The order of six things where the chain that is found first has to give its follower to another one. */
    private static Belowhouse crossing() {
        Belowhouse house = new Belowhouse();
        house.lay(0, 6);
        house.put(0, 0, 3);
        house.put(0, 0, 4);
        house.put(0, 1, 3);
        house.put(0, 1, 5);
        house.put(0, 2, 3);
        return house;
    }

    private static void promise31FewestChains() {
        Belowhouse house = crossing();
        house.lay(2, 9);
        house.chain(3, 9);
        Due.is("fewestChains(0)", house.fewestChains(0), 3);
        Due.is("fewestChains(1)", house.fewestChains(1), 0);
        Due.is("fewestChains(2)", house.fewestChains(2), 9);
        Due.is("fewestChains(3)", house.fewestChains(3), 1);
        Due.is("of the letter N", Due.letterN().fewestChains(0), 2);
        Due.is("of the divisors", Due.divisors().fewestChains(0), 2);
        Due.isThrown("fewestChains(4)", Due.NO_INDEX, house, () -> house.fewestChains(4));
        Due.isThrown("fewestChains(-1)", Due.NO_INDEX, house, () -> house.fewestChains(-1));
    }

    private static void promise32FewestAparts() {
        Belowhouse house = crossing();
        house.lay(2, 9);
        house.chain(3, 9);
        Due.is("fewestAparts(0)", house.fewestAparts(0), 2);
        Due.is("fewestAparts(1)", house.fewestAparts(1), 0);
        Due.is("fewestAparts(2)", house.fewestAparts(2), 1);
        Due.is("fewestAparts(3)", house.fewestAparts(3), 9);
        Due.is("of the divisors", Due.divisors().fewestAparts(0), 4);
        Due.isThrown("fewestAparts(4)", Due.NO_INDEX, house, () -> house.fewestAparts(4));
        Due.isThrown("fewestAparts(-1)", Due.NO_INDEX, house, () -> house.fewestAparts(-1));
    }

    private static void promise33Aparts() {
        Belowhouse house = Due.divisors();
        house.lay(2, 9);
        house.chain(3, 9);
        // none, six of one, and 2-3, 3-4, 4-6
        Due.is("aparts(0)", house.aparts(0), 10);
        Due.is("aparts(1)", house.aparts(1), 1);
        Due.is("aparts(2)", house.aparts(2), 512);
        Due.is("aparts(3)", house.aparts(3), 10);
        Due.isThrown("aparts(4)", Due.NO_INDEX, house, () -> house.aparts(4));
        Due.isThrown("aparts(-1)", Due.NO_INDEX, house, () -> house.aparts(-1));
    }

    private ChainsTest() {
    }
}
