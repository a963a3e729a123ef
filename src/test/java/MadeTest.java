/** Promises 1 to 15: orders are made. */
public final class MadeTest {
    public static void main(String[] args) {
        promise1New();
        promise2Lay();
        promise3Chain();
        promise4Add();
        promise5Drop();
        promise6Keep();
        promise7SetValue();
        promise8Put();
        promise9Loose();
        promise10Straighten();
        promise11Turn();
        promise12Copy();
        promise13Beside();
        promise14Above();
        promise15Meet();
        Due.end("MadeTest");
    }

    private static void promise1New() {
        Belowhouse house = new Belowhouse();
        for (int order = 0; order < 4; order++) {
            Due.is("things of a new order", house.things(order), 0);
        }
        Belowhouse other = new Belowhouse();
        other.lay(0, 3);
        Due.is("a new object is of its own", Due.state(house), " /  /  / ");
    }

    private static void promise2Lay() {
        Belowhouse house = Due.divisors();
        Due.is("lay tells the things there were", house.lay(0, 3), 6);
        Due.is("lay leaves no pairs and no values", Due.order(house, 0), "0:0 0:0 0:0");
        Due.is("lay 9", house.lay(0, 9), 3);
        Due.is("lay 9 makes 9", house.things(0), 9);
        Due.is("lay 0", house.lay(0, 0), 9);
        Due.is("lay 0 makes none", house.things(0), 0);
        Due.is("lay on the last order", house.lay(3, 1), 0);
        house.setValue(3, 0, 5);
        Due.isThrown("lay(4, 1)", Due.NO_INDEX, house, () -> house.lay(4, 1));
        Due.isThrown("lay(-1, 1)", Due.NO_INDEX, house, () -> house.lay(-1, 1));
        Due.isThrown("lay(-1, 10)", Due.NO_INDEX, house, () -> house.lay(-1, 10));
        Due.isThrown("lay(3, 10)", Due.NO_ARGUMENT, house, () -> house.lay(3, 10));
        Due.isThrown("lay(3, -1)", Due.NO_ARGUMENT, house, () -> house.lay(3, -1));
    }

    private static void promise3Chain() {
        Belowhouse house = new Belowhouse();
        house.add(0, 7);
        Due.is("chain of 4", house.chain(0, 4), 6);
        Due.is("each below the greater numbers", Due.order(house, 0), "0:0 1:0 3:0 7:0");
        Due.is("chain of 9", house.chain(3, 9), 36);
        Due.is("chain of 9 has 9", house.things(3), 9);
        Due.is("chain of 1", house.chain(0, 1), 0);
        Due.is("chain of 1 has 1", Due.order(house, 0), "0:0");
        Due.is("chain of 0", house.chain(0, 0), 0);
        Due.is("chain of 0 has none", house.things(0), 0);
        Due.isThrown("chain(4, 1)", Due.NO_INDEX, house, () -> house.chain(4, 1));
        Due.isThrown("chain(-1, -1)", Due.NO_INDEX, house, () -> house.chain(-1, -1));
        Due.isThrown("chain(0, 10)", Due.NO_ARGUMENT, house, () -> house.chain(0, 10));
        Due.isThrown("chain(3, -1)", Due.NO_ARGUMENT, house, () -> house.chain(3, -1));
    }

    private static void promise4Add() {
        Belowhouse house = new Belowhouse();
        house.chain(1, 2);
        Due.is("add tells the next number", house.add(1, -1000), 2);
        Due.is("and the next", house.add(1, 1000), 3);
        Due.is("in order with none", Due.order(house, 1), "0:0 1:0 0:-1000 0:1000");
        // What a thing that is gone had below it does not come again with its number.
        house.chain(2, 9);
        house.drop(2, 8);
        Due.is("add behind a drop", house.add(2, 3), 8);
        Due.is("nothing below it", house.lower(2, 8), 0);
        Due.is("nothing above it", house.upper(2, 8), 0);
        Due.isThrown("add(2, 1) with 9 things", Due.NO_STATE, house, () -> house.add(2, 1));
        Due.isThrown("add(2, 1001) with 9 things", Due.NO_ARGUMENT, house, () -> house.add(2, 1001));
        Due.isThrown("add(1, 1001)", Due.NO_ARGUMENT, house, () -> house.add(1, 1001));
        Due.isThrown("add(1, -1001)", Due.NO_ARGUMENT, house, () -> house.add(1, -1001));
        Due.isThrown("add(4, 1001)", Due.NO_INDEX, house, () -> house.add(4, 1001));
        Due.isThrown("add(-1, 0)", Due.NO_INDEX, house, () -> house.add(-1, 0));
    }

    private static void promise5Drop() {
        Belowhouse house = Due.divisors();
        Due.is("drop tells the value", house.drop(0, 1), 2);
        // 1, 3, 4, 6, 12 stay: what goes by a thing between stays in order.
        Due.is("the others keep pairs and values", Due.order(house, 0), "0:1 1:3 1:4 3:5 15:6");
        Due.is("drop the last", house.drop(0, 4), 6);
        Due.is("drop the first", house.drop(0, 0), 1);
        Due.is("what is left", Due.order(house, 0), "0:3 0:4 1:5");
        Due.isThrown("drop(0, 3)", Due.NO_INDEX, house, () -> house.drop(0, 3));
        Due.isThrown("drop(0, -1)", Due.NO_INDEX, house, () -> house.drop(0, -1));
        Due.isThrown("drop(1, 0)", Due.NO_INDEX, house, () -> house.drop(1, 0));
        Due.isThrown("drop(4, 0)", Due.NO_INDEX, house, () -> house.drop(4, 0));
    }

    private static void promise6Keep() {
        Belowhouse house = Due.divisors();
        Due.is("keep 2, 3 and 12", house.keep(0, 2 + 4 + 32), 3);
        Due.is("they keep pairs and values", Due.order(house, 0), "0:2 0:3 3:6");
        Due.is("keep all", house.keep(0, 7), 0);
        Due.is("all are kept", Due.order(house, 0), "0:2 0:3 3:6");
        Due.isThrown("keep(0, 8)", Due.NO_ARGUMENT, house, () -> house.keep(0, 8));
        Due.isThrown("keep(0, -1)", Due.NO_ARGUMENT, house, () -> house.keep(0, -1));
        Due.isThrown("keep(0, 1 << 31)", Due.NO_ARGUMENT, house, () -> house.keep(0, 1 << 31));
        Due.isThrown("keep(4, -1)", Due.NO_INDEX, house, () -> house.keep(4, -1));
        Due.isThrown("keep(1, 1)", Due.NO_ARGUMENT, house, () -> house.keep(1, 1));
        Due.is("keep none", house.keep(0, 0), 3);
        Due.is("none are kept", house.things(0), 0);
        Due.is("keep none of none", house.keep(0, 0), 0);
    }

    private static void promise7SetValue() {
        Belowhouse house = Due.divisors();
        Due.is("setValue tells the value there was", house.setValue(0, 2, -1000), 3);
        Due.is("the same one", house.setValue(0, 2, -1000), -1000);
        Due.is("the greatest one", house.setValue(0, 5, 1000), 6);
        Due.is("no other one changes", Due.order(house, 0), "0:1 1:2 1:-1000 3:4 7:5 31:1000");
        Due.isThrown("setValue(0, 2, 1001)", Due.NO_ARGUMENT, house, () -> house.setValue(0, 2, 1001));
        Due.isThrown("setValue(0, 2, -1001)", Due.NO_ARGUMENT, house, () -> house.setValue(0, 2, -1001));
        Due.isThrown("setValue(0, 6, 1001)", Due.NO_INDEX, house, () -> house.setValue(0, 6, 1001));
        Due.isThrown("setValue(0, -1, 0)", Due.NO_INDEX, house, () -> house.setValue(0, -1, 0));
        Due.isThrown("setValue(4, 0, 0)", Due.NO_INDEX, house, () -> house.setValue(4, 0, 0));
    }

    private static void promise8Put() {
        Belowhouse house = new Belowhouse();
        house.chain(0, 2);
        house.chain(1, 3);
        house.beside(0, 1, 2);
        // 0 below 1, and 2 below 3 below 4: the pair 1, 3 brings 0 and 1 below 3 and 4.
        Due.is("put brings what follows", house.put(2, 1, 3), 4);
        Due.is("and no others", Due.order(house, 2), "0:0 1:0 0:0 7:0 15:0");
        Due.is("a pair that was there", house.put(2, 0, 4), 0);
        Due.is("and nothing changes", Due.order(house, 2), "0:0 1:0 0:0 7:0 15:0");
        Due.isRefused("put(2, 4, 0)", house, () -> house.put(2, 4, 0));
        Due.isRefused("put(2, 3, 3)", house, () -> house.put(2, 3, 3));
        Due.isThrown("put(2, 5, 5)", Due.NO_INDEX, house, () -> house.put(2, 5, 5));
        Due.isThrown("put(2, 0, 5)", Due.NO_INDEX, house, () -> house.put(2, 0, 5));
        Due.isThrown("put(2, -1, 0)", Due.NO_INDEX, house, () -> house.put(2, -1, 0));
        Due.isThrown("put(3, 0, 0)", Due.NO_INDEX, house, () -> house.put(3, 0, 0));
        Due.isThrown("put(-1, 0, 0)", Due.NO_INDEX, house, () -> house.put(-1, 0, 0));
    }

    private static void promise9Loose() {
        Belowhouse house = new Belowhouse();
        house.chain(0, 3);
        Due.isRefused("loose(0, 0, 2), which has a thing between", house, () -> house.loose(0, 0, 2));
        Due.isRefused("loose(0, 1, 0)", house, () -> house.loose(0, 1, 0));
        Due.isRefused("loose(0, 1, 1)", house, () -> house.loose(0, 1, 1));
        Due.is("loose a pair", house.loose(0, 0, 1), 2);
        Due.is("all others stay", Due.order(house, 0), "0:0 0:0 3:0");
        Due.is("put it again", house.put(0, 0, 1), 1);
        Due.is("as it was", Due.order(house, 0), "0:0 1:0 3:0");
        house.loose(0, 1, 2);
        Due.is("now 0 is next below 2", house.loose(0, 0, 2), 1);
        Due.isRefused("loose what is apart", house, () -> house.loose(0, 1, 2));
        Due.isThrown("loose(0, 0, 3)", Due.NO_INDEX, house, () -> house.loose(0, 0, 3));
        Due.isThrown("loose(0, -1, 0)", Due.NO_INDEX, house, () -> house.loose(0, -1, 0));
        Due.isThrown("loose(1, 0, 0)", Due.NO_INDEX, house, () -> house.loose(1, 0, 0));
        Due.isThrown("loose(4, 0, 1)", Due.NO_INDEX, house, () -> house.loose(4, 0, 1));
    }

    private static void promise10Straighten() {
        Belowhouse house = Due.letterN();
        house.setValue(0, 3, 9);
        // The rows: 1234, 1243, 2134, 2143, 2413.
        Due.isThrown("straighten(0, 5)", Due.NO_INDEX, house, () -> house.straighten(0, 5));
        Due.isThrown("straighten(0, -1)", Due.NO_INDEX, house, () -> house.straighten(0, -1));
        Due.isThrown("straighten(4, 0)", Due.NO_INDEX, house, () -> house.straighten(4, 0));
        Due.is("straighten to 2413", house.straighten(0, 4), 3);
        Due.is("each below all behind it", Due.order(house, 0), "10:0 0:0 11:0 2:9");
        Due.is("straighten again", house.straighten(0, 0), 0);
        Due.is("nothing changes then", Due.order(house, 0), "10:0 0:0 11:0 2:9");
        Due.isThrown("straighten(0, 1)", Due.NO_INDEX, house, () -> house.straighten(0, 1));
        Due.is("straighten without things", house.straighten(1, 0), 0);
        Due.isThrown("straighten(1, 1)", Due.NO_INDEX, house, () -> house.straighten(1, 1));
    }

    private static void promise11Turn() {
        Belowhouse house = Due.divisors();
        String ahead = Due.order(house, 0);
        Due.is("turn tells the pairs", house.turn(0), 12);
        Due.is("each below what was below it", Due.order(house, 0), "62:1 56:2 48:3 32:4 32:5 0:6");
        Due.is("turn again", house.turn(0), 12);
        Due.is("as it was", Due.order(house, 0), ahead);
        Due.is("turn without things", house.turn(3), 0);
        Due.isThrown("turn(4)", Due.NO_INDEX, house, () -> house.turn(4));
        Due.isThrown("turn(-1)", Due.NO_INDEX, house, () -> house.turn(-1));
    }

    private static void promise12Copy() {
        Belowhouse house = Due.letterN();
        house.setValue(0, 1, 8);
        Due.is("copy tells the things", house.copy(0, 3), 4);
        Due.is("as the other one", Due.order(house, 3), "0:0 0:8 3:0 2:0");
        house.put(3, 0, 1);
        house.setValue(3, 0, 4);
        Due.is("the one does not change with it", Due.order(house, 0), "0:0 0:8 3:0 2:0");
        Due.is("copy to itself", house.copy(0, 0), 4);
        Due.is("as it was", Due.order(house, 0), "0:0 0:8 3:0 2:0");
        Due.is("copy of none", house.copy(1, 0), 0);
        Due.is("none are there", house.things(0), 0);
        Due.isThrown("copy(4, 0)", Due.NO_INDEX, house, () -> house.copy(4, 0));
        Due.isThrown("copy(3, 4)", Due.NO_INDEX, house, () -> house.copy(3, 4));
        Due.isThrown("copy(3, -1)", Due.NO_INDEX, house, () -> house.copy(3, -1));
    }

    private static void promise13Beside() {
        Belowhouse house = Due.letterN();
        house.setValue(0, 2, 8);
        house.chain(1, 2);
        house.setValue(1, 1, -3);
        Due.is("beside tells the things", house.beside(0, 1, 2), 6);
        Due.is("first the one, then the other", Due.order(house, 2), "0:0 0:0 3:8 2:0 0:0 16:-3");
        Due.is("into the one", house.beside(1, 0, 1), 6);
        Due.is("with both as they were", Due.order(house, 1), "0:0 1:-3 0:0 0:0 12:8 8:0");
        Due.is("into the other", house.beside(3, 0, 0), 4);
        Due.is("with none beside it", Due.order(house, 0), "0:0 0:0 3:8 2:0");
        Due.is("both the same, and into it", house.beside(0, 0, 0), 8);
        Due.is("twice beside", Due.order(house, 0), "0:0 0:0 3:8 2:0 0:0 0:0 48:8 32:0");
        house.lay(3, 1);
        Due.is("9 things", house.beside(3, 0, 3), 9);
        Due.isThrown("beside(0, 1, 0)", Due.NO_STATE, house, () -> house.beside(0, 1, 0));
        Belowhouse five = new Belowhouse();
        five.lay(0, 5);
        five.lay(1, 6);
        Due.isThrown("beside(0, 1, 4)", Due.NO_INDEX, five, () -> five.beside(0, 1, 4));
        Due.isThrown("beside(4, 1, 0)", Due.NO_INDEX, five, () -> five.beside(4, 1, 0));
        Due.isThrown("beside(0, -1, 0)", Due.NO_INDEX, five, () -> five.beside(0, -1, 0));
        Due.isThrown("10 things", Due.NO_STATE, five, () -> five.beside(0, 0, 1));
    }

    private static void promise14Above() {
        Belowhouse house = new Belowhouse();
        house.lay(0, 2);
        house.setValue(0, 0, 6);
        house.chain(1, 2);
        house.setValue(1, 1, -3);
        Due.is("above tells the pairs", house.above(0, 1, 2), 5);
        Due.is("each of the one below each of the other", Due.order(house, 2), "0:6 0:0 3:0 7:-3");
        Due.is("into the other", house.above(0, 1, 1), 5);
        Due.is("with both as they were", Due.order(house, 1), "0:6 0:0 3:0 7:-3");
        Due.is("both the same, and into it", house.above(0, 0, 0), 4);
        Due.is("twice above", Due.order(house, 0), "0:6 0:0 3:6 3:0");
        Due.is("above none", house.above(3, 0, 0), 4);
        Due.is("as it was", Due.order(house, 0), "0:6 0:0 3:6 3:0");
        house.chain(3, 5);
        Due.is("9 things", house.above(3, 0, 2), 34);
        Due.isThrown("above(3, 3, 0)", Due.NO_STATE, house, () -> house.above(3, 3, 0));
        Due.isThrown("above(3, 3, 4)", Due.NO_INDEX, house, () -> house.above(3, 3, 4));
        Due.isThrown("above(-1, 3, 0)", Due.NO_INDEX, house, () -> house.above(-1, 3, 0));
        Due.isThrown("above(3, 4, 0)", Due.NO_INDEX, house, () -> house.above(3, 4, 0));
    }

    private static void promise15Meet() {
        Belowhouse house = new Belowhouse();
        house.chain(0, 4);
        house.setValue(0, 0, 5);
        house.lay(1, 4);
        house.setValue(1, 0, 6);
        house.put(1, 0, 2);
        house.put(1, 3, 1);
        Due.is("meet tells the pairs", house.meet(0, 1, 2), 1);
        Due.is("the pairs of both, the values of the one", Due.order(house, 2), "0:5 0:0 1:0 0:0");
        Due.is("into the other", house.meet(0, 1, 1), 1);
        Due.is("what both have", Due.order(house, 1), "0:5 0:0 1:0 0:0");
        Due.is("with itself", house.meet(0, 0, 0), 6);
        Due.is("as it was", Due.order(house, 0), "0:5 1:0 3:0 7:0");
        Due.is("into the one", house.meet(0, 2, 0), 1);
        Due.is("what both have", Due.order(house, 0), "0:5 0:0 1:0 0:0");
        house.turn(2);
        house.turn(0);
        house.lay(1, 4);
        Due.is("thing 0 has something below it in one alone", house.meet(0, 1, 1), 0);
        Due.is("no pairs", Due.order(house, 1), "0:5 0:0 0:0 0:0");
        Due.is("without things", house.meet(3, 3, 0), 0);
        Due.is("none are there", house.things(0), 0);
        Due.isRefused("meet(0, 1, 2)", house, () -> house.meet(0, 1, 2));
        Due.isThrown("meet(0, 1, 4)", Due.NO_INDEX, house, () -> house.meet(0, 1, 4));
        Due.isThrown("meet(-1, 1, 2)", Due.NO_INDEX, house, () -> house.meet(-1, 1, 2));
        Due.isThrown("meet(0, 4, 2)", Due.NO_INDEX, house, () -> house.meet(0, 4, 2));
    }

    private MadeTest() {
    }
}
