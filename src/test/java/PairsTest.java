/** Promises 16 to 25: things and pairs. */
public final class PairsTest {
    public static void main(String[] args) {
        promise16Things();
        promise17Pairs();
        promise18Nexts();
        promise19Sign();
        promise20IsNext();
        promise21Lower();
        promise22Upper();
        promise23Ends();
        promise24Value();
        promise25IsSame();
        Due.end("PairsTest");
    }

    private static void promise16Things() {
        Belowhouse house = Due.divisors();
        house.lay(3, 9);
        Due.is("things(0)", house.things(0), 6);
        Due.is("things(1)", house.things(1), 0);
        Due.is("things(3)", house.things(3), 9);
        Due.isThrown("things(4)", Due.NO_INDEX, house, () -> house.things(4));
        Due.isThrown("things(-1)", Due.NO_INDEX, house, () -> house.things(-1));
    }

    private static void promise17Pairs() {
        Belowhouse house = Due.divisors();
        house.lay(2, 9);
        house.chain(3, 9);
        Due.is("pairs(0)", house.pairs(0), 12);
        Due.is("pairs(1)", house.pairs(1), 0);
        Due.is("pairs(2)", house.pairs(2), 0);
        Due.is("pairs(3)", house.pairs(3), 36);
        Due.isThrown("pairs(4)", Due.NO_INDEX, house, () -> house.pairs(4));
        Due.isThrown("pairs(-1)", Due.NO_INDEX, house, () -> house.pairs(-1));
    }

    private static void promise18Nexts() {
        Belowhouse house = Due.divisors();
        house.chain(3, 9);
        // 1-2, 1-3, 2-4, 2-6, 3-6, 4-12, 6-12
        Due.is("nexts(0)", house.nexts(0), 7);
        Due.is("nexts(1)", house.nexts(1), 0);
        house.turn(0);
        Due.is("nexts(0), turned", house.nexts(0), 7);
        Due.is("nexts(3)", house.nexts(3), 8);
        Due.isThrown("nexts(4)", Due.NO_INDEX, house, () -> house.nexts(4));
        Due.isThrown("nexts(-1)", Due.NO_INDEX, house, () -> house.nexts(-1));
    }

    private static void promise19Sign() {
        Belowhouse house = Due.divisors();
        Due.is("2 and 12", house.sign(0, 1, 5), '<');
        Due.is("12 and 2", house.sign(0, 5, 1), '>');
        Due.is("2 and 2", house.sign(0, 1, 1), '=');
        Due.is("4 and 6", house.sign(0, 3, 4), '|');
        Due.is("6 and 4", house.sign(0, 4, 3), '|');
        Due.isThrown("sign(0, 6, 0)", Due.NO_INDEX, house, () -> house.sign(0, 6, 0));
        Due.isThrown("sign(0, 0, 6)", Due.NO_INDEX, house, () -> house.sign(0, 0, 6));
        Due.isThrown("sign(0, -1, -1)", Due.NO_INDEX, house, () -> house.sign(0, -1, -1));
        Due.isThrown("sign(4, 0, 0)", Due.NO_INDEX, house, () -> house.sign(4, 0, 0));
    }

    private static void promise20IsNext() {
        Belowhouse house = Due.divisors();
        Due.isTrue("2 and 4", house.isNext(0, 1, 3));
        Due.isTrue("6 and 12", house.isNext(0, 4, 5));
        Due.isFalse("1 and 4, with 2 between", house.isNext(0, 0, 3));
        Due.isFalse("4 and 2", house.isNext(0, 3, 1));
        Due.isFalse("4 and 4", house.isNext(0, 3, 3));
        Due.isFalse("4 and 6", house.isNext(0, 3, 4));
        Due.isThrown("isNext(0, 6, 0)", Due.NO_INDEX, house, () -> house.isNext(0, 6, 0));
        Due.isThrown("isNext(0, 0, -1)", Due.NO_INDEX, house, () -> house.isNext(0, 0, -1));
        Due.isThrown("isNext(-1, 0, 0)", Due.NO_INDEX, house, () -> house.isNext(-1, 0, 0));
    }

    private static void promise21Lower() {
        Belowhouse house = Due.divisors();
        Due.is("below 6", house.lower(0, 4), 1 + 2 + 4);
        Due.is("below 1", house.lower(0, 0), 0);
        Due.is("below 12", house.lower(0, 5), 31);
        Due.isThrown("lower(0, 6)", Due.NO_INDEX, house, () -> house.lower(0, 6));
        Due.isThrown("lower(0, -1)", Due.NO_INDEX, house, () -> house.lower(0, -1));
        Due.isThrown("lower(1, 0)", Due.NO_INDEX, house, () -> house.lower(1, 0));
        Due.isThrown("lower(4, 0)", Due.NO_INDEX, house, () -> house.lower(4, 0));
    }

    private static void promise22Upper() {
        Belowhouse house = Due.divisors();
        Due.is("above 2", house.upper(0, 1), 8 + 16 + 32);
        Due.is("above 12", house.upper(0, 5), 0);
        Due.is("above 1", house.upper(0, 0), 62);
        Due.isThrown("upper(0, 6)", Due.NO_INDEX, house, () -> house.upper(0, 6));
        Due.isThrown("upper(0, -1)", Due.NO_INDEX, house, () -> house.upper(0, -1));
        Due.isThrown("upper(1, 0)", Due.NO_INDEX, house, () -> house.upper(1, 0));
        Due.isThrown("upper(4, 0)", Due.NO_INDEX, house, () -> house.upper(4, 0));
    }

    private static void promise23Ends() {
        Belowhouse house = Due.letterN();
        house.add(0, 0);
        Due.is("greatest", house.ends(0, true), 4 + 8 + 16);
        Due.is("least", house.ends(0, false), 1 + 2 + 16);
        Due.is("greatest of none", house.ends(1, true), 0);
        Due.is("least of none", house.ends(1, false), 0);
        Due.isThrown("ends(4, true)", Due.NO_INDEX, house, () -> house.ends(4, true));
        Due.isThrown("ends(-1, false)", Due.NO_INDEX, house, () -> house.ends(-1, false));
    }

    private static void promise24Value() {
        Belowhouse house = Due.divisors();
        Due.is("value(0, 0)", house.value(0, 0), 1);
        Due.is("value(0, 5)", house.value(0, 5), 6);
        Due.isThrown("value(0, 6)", Due.NO_INDEX, house, () -> house.value(0, 6));
        Due.isThrown("value(0, -1)", Due.NO_INDEX, house, () -> house.value(0, -1));
        Due.isThrown("value(3, 0)", Due.NO_INDEX, house, () -> house.value(3, 0));
        Due.isThrown("value(-1, 0)", Due.NO_INDEX, house, () -> house.value(-1, 0));
    }

    private static void promise25IsSame() {
        Belowhouse house = Due.letterN();
        house.copy(0, 1);
        house.setValue(1, 0, 77);
        Due.isTrue("whatever their values", house.isSame(0, 1));
        Due.isTrue("with itself", house.isSame(0, 0));
        Due.isTrue("both without things", house.isSame(2, 3));
        house.put(1, 0, 3);
        Due.isFalse("another pair", house.isSame(0, 1));
        Due.isFalse("another pair, turned", house.isSame(1, 0));
        house.lay(2, 2);
        house.lay(3, 2);
        house.put(3, 1, 0);
        Due.isFalse("a pair with thing 0 above", house.isSame(2, 3));
        house.lay(2, 3);
        house.lay(3, 4);
        Due.isFalse("more things", house.isSame(2, 3));
        Due.isFalse("fewer things", house.isSame(3, 2));
        Due.isThrown("isSame(0, 4)", Due.NO_INDEX, house, () -> house.isSame(0, 4));
        Due.isThrown("isSame(-1, 0)", Due.NO_INDEX, house, () -> house.isSame(-1, 0));
    }

    private PairsTest() {
    }
}
