/** Promises 1 to 15: each sentence of theirs that names an edge has a test here. */
public final class MadeEdgeTest {
    private static final String NO_THINGS = "";

    public static void main(String[] args) {
        promise1NoThings();
        promise1ObjectsAreOfTheirOwn();
        promise2LayNoneAndNine();
        promise2NoneAreInOrder();
        promise2ValuesAre0();
        promise2TellsWhatItHad();
        promise2Refused();
        promise3ChainOfNoneOneAndNine();
        promise3ValuesAre0();
        promise3Refused();
        promise4AddsTheFirstAndTheNinth();
        promise4InOrderWithNone();
        promise4GetsTheNextNumber();
        promise4Refused();
        promise4FirstDocumentedIsThrown();
        promise5DropsTheOnlyOne();
        promise5DropsTheFirstAndTheLast();
        promise5OthersKeepTheirPairs();
        promise5DropsAllOfNine();
        promise5Refused();
        promise6KeepsNone();
        promise6KeepsAll();
        promise6KeepsEachOneAlone();
        promise6NumbersInTheirSequence();
        promise6Refused();
        promise7AnotherValueOrTheSame();
        promise7Refused();
        promise8PutsTheSamePairAgain();
        promise8BringsAllThatFollow();
        promise8Refused();
        promise9TakesTheLastPair();
        promise9AllOtherPairsStay();
        promise9Refused();
        promise10FirstAndLastRow();
        promise10WithoutThings();
        promise10NumbersAndValuesStay();
        promise10Refused();
        promise11TurnsNoneOneAndNine();
        promise11NumbersAndValuesStay();
        promise11Refused();
        promise12CopiesToItself();
        promise12CopiesNoneAndNine();
        promise12CopiesAreOfTheirOwn();
        promise12Refused();
        joins();
        Due.end("MadeEdgeTest");
    }

    /** Promises 13 to 15, of two orders. */
    private static void joins() {
        promise13NoneBeside();
        promise13NineAndTen();
        promise13IntoOneOfBoth();
        promise13BothTheSame();
        promise13Refused();
        promise14NoneAbove();
        promise14NineAndTen();
        promise14IntoOneOfBoth();
        promise14BothTheSame();
        promise14Refused();
        promise15NoneAndNine();
        promise15IntoOneOfBoth();
        promise15ValuesOfTheOne();
        promise15RefusedIfNotAsMany();
        promise15Refused();
    }

    /** Creates four orders without things: every call of one order answers as there are none. */
    private static void promise1NoThings() {
        for (int order = 0; order < 4; order++) {
            Belowhouse house = new Belowhouse();
            Due.is("things", house.things(order), 0);
            Due.is("pairs", house.pairs(order), 0);
            Due.is("rows", house.rows(order), 1);
            Due.is("sets", house.sets(order), 1);
            int it = order;
            Edge.isThrown("the first thing of none", Due.NO_INDEX, Belowhouse::new, asked -> asked.value(it, 0));
        }
        Due.is("all of a new object", Edge.look(new Belowhouse()), Edge.look(new Belowhouse()));
        Due.is("the state of a new object", Due.state(new Belowhouse()), " /  /  / ");
    }

    private static void promise1ObjectsAreOfTheirOwn() {
        Belowhouse first = new Belowhouse();
        Belowhouse second = new Belowhouse();
        String due = Edge.look(second);
        first.chain(0, 9);
        first.add(3, 1000);
        Due.is("an object beside one that changes", Edge.look(second), due);
        Due.is("an object that comes later", Edge.look(new Belowhouse()), due);
    }

    /** many: 0 to 9. */
    private static void promise2LayNoneAndNine() {
        for (int many = 0; many <= 9; many++) {
            Belowhouse house = Edge.world();
            house.lay(2, many);
            Due.is("things behind lay", house.things(2), many);
            Due.is("sets behind lay", house.sets(2), 1 << many);
        }
    }

    /** None of which are in order, whatever there was. */
    private static void promise2NoneAreInOrder() {
        Belowhouse house = Edge.sample(10);
        house.lay(0, 9);
        Due.is("no pairs of 9", house.pairs(0), 0);
        Due.is("9 apart", house.widest(0), 9);
        house.chain(0, 9);
        house.lay(0, 2);
        house.add(0, 0);
        Due.is("nor of one that comes then", Due.order(house, 0), "0:0 0:0 0:0");
    }

    /** Their values are 0, whatever they were. */
    private static void promise2ValuesAre0() {
        Belowhouse house = Edge.world();
        house.lay(2, 9);
        Due.is("values of 9", Due.order(house, 2), "0:0 0:0 0:0 0:0 0:0 0:0 0:0 0:0 0:0");
        house.setValue(2, 8, 7);
        house.lay(2, 1);
        house.lay(2, 9);
        Due.is("the 9th value behind a lesser one", house.value(2, 8), 0);
    }

    private static void promise2TellsWhatItHad() {
        Belowhouse house = new Belowhouse();
        Due.is("it had none", house.lay(0, 9), 0);
        Due.is("it had 9", house.lay(0, 9), 9);
        Due.is("9 again", house.lay(0, 0), 9);
        Due.is("none again", house.lay(0, 0), 0);
    }

    private static void promise2Refused() {
        for (int order : new int[] {-1, 4}) {
            Edge.isThrown("lay of order " + order, Due.NO_INDEX, Edge::world, it -> it.lay(order, 9));
            Edge.isThrown("and too many", Due.NO_INDEX, Edge::world, it -> it.lay(order, 10));
        }
        for (int many : new int[] {-1, 10, Edge.LEAST, Edge.MOST}) {
            Edge.isThrown("lay of " + many, Due.NO_ARGUMENT, Edge::world, it -> it.lay(2, many));
            Edge.isThrown("lay where none are, of " + many, Due.NO_ARGUMENT, Edge::world, it -> it.lay(1, many));
        }
    }

    /** many: 0 to 9; returns how many pairs it has. */
    private static void promise3ChainOfNoneOneAndNine() {
        for (int many = 0; many <= 9; many++) {
            Belowhouse house = Edge.world();
            Due.is("pairs of a chain of " + many, house.chain(2, many), many * (many - 1) / 2);
            Due.is("things of it", house.things(2), many);
            Due.is("its longest chain", house.longest(2), many);
            for (int thing = 0; thing < many; thing++) {
                Due.is("each one below all that have a greater number", house.lower(2, thing), (1 << thing) - 1);
            }
        }
    }

    private static void promise3ValuesAre0() {
        Belowhouse house = Edge.world();
        house.chain(2, 3);
        Due.is("values of a chain", Due.order(house, 2), "0:0 1:0 3:0");
        house.chain(2, 9);
        Due.is("the 9th value", house.value(2, 8), 0);
    }

    private static void promise3Refused() {
        for (int order : new int[] {-1, 4}) {
            Edge.isThrown("chain of order " + order, Due.NO_INDEX, Edge::world, it -> it.chain(order, 0));
            Edge.isThrown("and too few", Due.NO_INDEX, Edge::world, it -> it.chain(order, -1));
        }
        for (int many : new int[] {-1, 10, Edge.LEAST, Edge.MOST}) {
            Edge.isThrown("chain of " + many, Due.NO_ARGUMENT, Edge::world, it -> it.chain(2, many));
            Edge.isThrown("chain where none are, of " + many, Due.NO_ARGUMENT, Edge::world, it -> it.chain(1, many));
        }
    }

    private static void promise4AddsTheFirstAndTheNinth() {
        Belowhouse house = new Belowhouse();
        Due.is("the first", house.add(0, -1000), 0);
        Due.is("one thing", Due.order(house, 0), "0:-1000");
        house.chain(0, 8);
        Due.is("the ninth", house.add(0, 1000), 8);
        Due.is("nine things", Due.order(house, 0), "0:0 1:0 3:0 7:0 15:0 31:0 63:0 127:0 0:1000");
        Due.is("the rows of nine, one of which is free", house.rows(0), 9);
    }

    /** In order with none, even if one that had this number was. */
    private static void promise4InOrderWithNone() {
        for (int which : new int[] {10, 11}) {
            Belowhouse house = Edge.sample(which);
            house.drop(0, 8);
            house.add(0, 5);
            Due.is("below it", house.lower(0, 8), 0);
            Due.is("above it", house.upper(0, 8), 0);
            Due.is("its value", house.value(0, 8), 5);
            house.keep(0, 1);
            house.add(0, 6);
            Due.is("two apart", Due.order(house, 0), "0:0 0:6");
        }
    }

    private static void promise4GetsTheNextNumber() {
        Belowhouse house = new Belowhouse();
        for (int thing = 0; thing < 9; thing++) {
            Due.is("the next number", house.add(3, thing), thing);
        }
        house.drop(3, 0);
        Due.is("the next one behind a drop", house.add(3, 0), 8);
        house.keep(3, 0);
        Due.is("the next one where none are left", house.add(3, 0), 0);
    }

    private static void promise4Refused() {
        Edge.isThrown("add to 9", Due.NO_STATE, Edge::world, it -> it.add(2, 0));
        for (int value : new int[] {-1001, 1001, Edge.LEAST, Edge.MOST}) {
            Edge.isThrown("add of " + value, Due.NO_ARGUMENT, Edge::world, it -> it.add(0, value));
            Edge.isThrown("add of the first, " + value, Due.NO_ARGUMENT, Edge::world, it -> it.add(1, value));
        }
        Edge.isThrown("add to order 4", Due.NO_INDEX, Edge::world, it -> it.add(4, 0));
        Edge.isThrown("add to order -1", Due.NO_INDEX, Edge::world, it -> it.add(-1, 0));
    }

    private static void promise4FirstDocumentedIsThrown() {
        Edge.isThrown("no order, and no value", Due.NO_INDEX, Edge::world, it -> it.add(4, 1001));
        Edge.isThrown("no value, and 9 things", Due.NO_ARGUMENT, Edge::world, it -> it.add(2, 1001));
        Edge.isThrown("no value either, and 9 things", Due.NO_ARGUMENT, Edge::world, it -> it.add(2, -1001));
    }

    private static void promise5DropsTheOnlyOne() {
        Belowhouse house = new Belowhouse();
        house.add(0, -1000);
        Due.is("its value", house.drop(0, 0), -1000);
        Due.is("none are left", Due.order(house, 0), NO_THINGS);
        Due.is("the row of none", house.rowAt(0, 0), 0);
    }

    /** Each one that had a greater number has one less. */
    private static void promise5DropsTheFirstAndTheLast() {
        Belowhouse house = Edge.world();
        Due.is("the last one's value", house.drop(0, 3), 0);
        Due.is("the others' numbers", Due.order(house, 0), "0:0 0:-6 3:7");
        Due.is("the first one's value", house.drop(0, 0), 0);
        Due.is("the others' numbers then", Due.order(house, 0), "0:-6 1:7");
    }

    /** The other ones keep theirs, also those that a thing between had brought. */
    private static void promise5OthersKeepTheirPairs() {
        for (int thing = 0; thing < 9; thing++) {
            Belowhouse house = Edge.sample(10);
            house.drop(0, thing);
            Due.is("a chain is left", Due.order(house, 0), "0:0 1:0 3:0 7:0 15:0 31:0 63:0 127:0");
        }
        Belowhouse fan = Edge.sample(12);
        for (int k = 0; k < 7; k++) {
            fan.drop(0, 1);
        }
        Due.is("the two ends of a fan", Due.order(fan, 0), "0:0 1:0");
    }

    private static void promise5DropsAllOfNine() {
        Belowhouse house = Edge.world();
        for (int thing = 8; thing >= 0; thing--) {
            Due.is("the value of " + thing, house.drop(2, thing), 250 * thing - 1000);
            Due.is("what is left", house.things(2), thing);
        }
        Due.is("none are left", Due.order(house, 2), NO_THINGS);
    }

    private static void promise5Refused() {
        Edge.isThrown("drop behind the last", Due.NO_INDEX, Edge::world, it -> it.drop(0, 4));
        Edge.isThrown("drop behind the ninth", Due.NO_INDEX, Edge::world, it -> it.drop(2, 9));
        Edge.isThrown("drop ahead of the first", Due.NO_INDEX, Edge::world, it -> it.drop(2, -1));
        Edge.isThrown("drop of none", Due.NO_INDEX, Edge::world, it -> it.drop(1, 0));
        Edge.isThrown("drop of order 4", Due.NO_INDEX, Edge::world, it -> it.drop(4, 0));
        Edge.isThrown("drop of order -1", Due.NO_INDEX, Edge::world, it -> it.drop(-1, 0));
    }

    private static void promise6KeepsNone() {
        Belowhouse house = Edge.world();
        Due.is("none of 9", house.keep(2, 0), 9);
        Due.is("none are left", Due.order(house, 2), NO_THINGS);
        Due.is("none of none", house.keep(1, 0), 0);
        Due.is("none there still", Due.order(house, 1), NO_THINGS);
    }

    private static void promise6KeepsAll() {
        for (int order = 0; order < 4; order++) {
            int it = order;
            Edge.leaves("keep all of " + order, "0", Edge::world, house -> house.keep(it, house.setAt(it,
                    house.sets(it) - 1)));
        }
    }

    private static void promise6KeepsEachOneAlone() {
        for (int thing = 0; thing < 9; thing++) {
            Belowhouse house = Edge.world();
            Due.is("how many went", house.keep(2, 1 << thing), 8);
            Due.is("the one that stays", Due.order(house, 2), "0:" + (250 * thing - 1000));
        }
    }

    /** They get the numbers from 0 on in the sequence of those that they had. */
    private static void promise6NumbersInTheirSequence() {
        Belowhouse house = Edge.sample(11);
        for (int thing = 0; thing < 9; thing++) {
            house.setValue(0, thing, thing);
        }
        Due.is("how many went", house.keep(0, 256 + 16 + 2), 6);
        Due.is("1, 4 and 8, of which the last is the lowest", Due.order(house, 0), "6:1 4:4 0:8");
    }

    private static void promise6Refused() {
        for (int set : new int[] {-1, 16, 17, 512, Edge.LEAST, Edge.MOST}) {
            Edge.isThrown("keep " + set, Due.NO_ARGUMENT, Edge::world, it -> it.keep(0, set));
        }
        Edge.isThrown("keep the tenth of nine", Due.NO_ARGUMENT, Edge::world, it -> it.keep(2, 512));
        Edge.isThrown("keep the first of none", Due.NO_ARGUMENT, Edge::world, it -> it.keep(1, 1));
        Edge.isThrown("keep of order 4", Due.NO_INDEX, Edge::world, it -> it.keep(4, -1));
        Edge.isThrown("keep of order -1", Due.NO_INDEX, Edge::world, it -> it.keep(-1, 0));
    }

    /** Gives a thing another value, or the same one; returns the value that it had. */
    private static void promise7AnotherValueOrTheSame() {
        Belowhouse house = Edge.world();
        Due.is("the least", house.setValue(2, 8, -1000), 1000);
        Due.is("the greatest", house.setValue(2, 8, 1000), -1000);
        Due.is("all is as it was", Edge.look(house), Edge.look(Edge.world()));
        Edge.leaves("the same one", "-6", Edge::world, it -> it.setValue(0, 1, -6));
    }

    private static void promise7Refused() {
        for (int value : new int[] {-1001, 1001, Edge.LEAST, Edge.MOST}) {
            Edge.isThrown("setValue " + value, Due.NO_ARGUMENT, Edge::world, it -> it.setValue(0, 0, value));
            Edge.isThrown("no thing, and " + value, Due.NO_INDEX, Edge::world, it -> it.setValue(0, 4, value));
            Edge.isThrown("no order, and " + value, Due.NO_INDEX, Edge::world, it -> it.setValue(4, 0, value));
        }
        Edge.isThrown("behind the ninth", Due.NO_INDEX, Edge::world, it -> it.setValue(2, 9, 0));
        Edge.isThrown("ahead of the first", Due.NO_INDEX, Edge::world, it -> it.setValue(2, -1, 0));
        Edge.isThrown("where none are", Due.NO_INDEX, Edge::world, it -> it.setValue(1, 0, 0));
    }

    /** Returns 0 if it was there already, as a pair that was put or as one that followed. */
    private static void promise8PutsTheSamePairAgain() {
        Edge.leaves("put what is next below", "0", Edge::world, it -> it.put(2, 0, 1));
        Edge.leaves("put what is far below", "0", Edge::world, it -> it.put(2, 0, 8));
        Edge.leaves("put in a chain of 9", "0", () -> Edge.sample(10), it -> it.put(0, 0, 8));
    }

    /** All pairs come that follow from this and from those that were there, and no others. */
    private static void promise8BringsAllThatFollow() {
        Belowhouse house = new Belowhouse();
        house.chain(0, 4);
        house.chain(1, 5);
        house.beside(0, 1, 2);
        Due.is("the end of 4 below the first of 5", house.put(2, 3, 4), 20);
        Due.is("a chain of 9", house.longest(2), 9);
        house.beside(0, 1, 2);
        Due.is("the first of 4 below the end of 5", house.put(2, 0, 8), 1);
        house.beside(0, 1, 2);
        Due.is("the end of 5 below the first of 4", house.put(2, 8, 0), 20);
        Due.is("the first of nine is 4", house.rowAt(2, 0), 567891234);
        house.lay(3, 9);
        Due.is("the last of 9 below the first", house.put(3, 8, 0), 1);
        Due.is("and no other pair", house.pairs(3), 1);
    }

    /** REFUSED if both are the same thing, or high is below low. */
    private static void promise8Refused() {
        Edge.isRefused("put of the same", Edge::world, it -> it.put(0, 0, 0));
        Edge.isRefused("put of the same, the ninth", Edge::world, it -> it.put(2, 8, 8));
        Edge.isRefused("put of the one of one", () -> Edge.sample(1), it -> it.put(0, 0, 0));
        Edge.isRefused("high is next below low", Edge::world, it -> it.put(2, 1, 0));
        Edge.isRefused("high is far below low", Edge::world, it -> it.put(2, 8, 0));
        Edge.isRefused("high is far below low in a chain", () -> Edge.sample(11), it -> it.put(0, 0, 8));
        Edge.isThrown("the same, which is not there", Due.NO_INDEX, Edge::world, it -> it.put(0, 4, 4));
        Edge.isThrown("high is not there", Due.NO_INDEX, Edge::world, it -> it.put(2, 8, 9));
        Edge.isThrown("low is not there", Due.NO_INDEX, Edge::world, it -> it.put(2, -1, 8));
        Edge.isThrown("none are there", Due.NO_INDEX, Edge::world, it -> it.put(1, 0, 0));
        Edge.isThrown("put of order 4", Due.NO_INDEX, Edge::world, it -> it.put(4, 0, 0));
        Edge.isThrown("put of order -1", Due.NO_INDEX, Edge::world, it -> it.put(-1, 0, 1));
    }

    private static void promise9TakesTheLastPair() {
        Belowhouse house = Edge.sample(4);
        Due.is("the only pair", house.loose(0, 1, 0), 0);
        Due.is("none are left", Due.order(house, 0), "0:0 0:0");
        Due.is("it is not there again", house.put(0, 0, 1), 1);
    }

    /** All other pairs stay: those of what is below, and those of what is above. */
    private static void promise9AllOtherPairsStay() {
        for (int low = 0; low < 8; low++) {
            Belowhouse house = Edge.sample(10);
            Due.is("loose " + low, house.loose(0, low, low + 1), 35);
            for (int thing = 0; thing < 9; thing++) {
                int due = (1 << thing) - 1 - (thing == low + 1 ? 1 << low : 0);
                Due.is("below " + thing + " behind loose " + low, house.lower(0, thing), due);
            }
        }
    }

    /** REFUSED if low is not next below high: it is the same, above, apart, or something is between. */
    private static void promise9Refused() {
        Edge.isRefused("the same", Edge::world, it -> it.loose(0, 1, 1));
        Edge.isRefused("above", Edge::world, it -> it.loose(2, 1, 0));
        Edge.isRefused("apart", Edge::world, it -> it.loose(2, 1, 3));
        Edge.isRefused("one between", Edge::world, it -> it.loose(2, 0, 2));
        Edge.isRefused("all others between", Edge::world, it -> it.loose(2, 0, 8));
        Edge.isRefused("a last pair, the other way", Edge::world, it -> it.loose(3, 1, 0));
        Edge.isThrown("the same, which is not there", Due.NO_INDEX, Edge::world, it -> it.loose(0, 4, 4));
        Edge.isThrown("high is not there", Due.NO_INDEX, Edge::world, it -> it.loose(2, 8, 9));
        Edge.isThrown("low is not there", Due.NO_INDEX, Edge::world, it -> it.loose(2, -1, 0));
        Edge.isThrown("none are there", Due.NO_INDEX, Edge::world, it -> it.loose(1, 0, 0));
        Edge.isThrown("loose of order 4", Due.NO_INDEX, Edge::world, it -> it.loose(4, 0, 1));
        Edge.isThrown("loose of order -1", Due.NO_INDEX, Edge::world, it -> it.loose(-1, 0, 1));
    }

    /** place: from 0 to the last row. */
    private static void promise10FirstAndLastRow() {
        Belowhouse house = Edge.sample(9);
        Due.is("the first of 362880", house.straighten(0, 0), 36);
        Due.is("its row", house.rowAt(0, 0), 123456789);
        house.lay(0, 9);
        Due.is("the last of 362880", house.straighten(0, 362879), 36);
        Due.is("its row", house.rowAt(0, 0), 987654321);
        Due.is("the one row of a chain", house.straighten(0, 0), 0);
        Due.is("which stays", house.rowAt(0, 0), 987654321);
        Due.is("all of a chain", house.pairs(0), 36);
    }

    private static void promise10WithoutThings() {
        Edge.leaves("the one row of none", "0", Edge::world, it -> it.straighten(1, 0));
        Edge.leaves("the one row of a chain", "0", Edge::world, it -> it.straighten(3, 0));
        Edge.leaves("the one row of one", "0", () -> Edge.sample(1), it -> it.straighten(0, 0));
    }

    private static void promise10NumbersAndValuesStay() {
        Belowhouse house = Edge.world();
        Due.is("the last row of the letter N", house.straighten(0, 4), 3);
        Due.is("numbers and values", Due.order(house, 0), "10:0 0:-6 11:7 2:0");
    }

    private static void promise10Refused() {
        int[] rows = {5, 1, 42, 1};
        for (int order = 0; order < 4; order++) {
            int it = order;
            for (int place : new int[] {-1, rows[order], Edge.LEAST, Edge.MOST}) {
                Edge.isThrown("row " + place + " of " + order, Due.NO_INDEX, Edge::world,
                        house -> house.straighten(it, place));
            }
        }
        Edge.isThrown("behind the last of 362880", Due.NO_INDEX, () -> Edge.sample(9),
                it -> it.straighten(0, 362880));
        Edge.isThrown("straighten of order 4", Due.NO_INDEX, Edge::world, it -> it.straighten(4, 0));
        Edge.isThrown("straighten of order -1", Due.NO_INDEX, Edge::world, it -> it.straighten(-1, 0));
    }

    private static void promise11TurnsNoneOneAndNine() {
        Edge.leaves("turn of none", "0", Edge::world, it -> it.turn(1));
        Edge.leaves("turn of one", "0", () -> Edge.sample(1), it -> it.turn(0));
        Edge.leaves("turn of nine apart", "0", () -> Edge.sample(9), it -> it.turn(0));
        Belowhouse house = Edge.sample(10);
        Due.is("turn of a chain", house.turn(0), 36);
        Due.is("it is the other way then", Edge.look(house), Edge.look(Edge.sample(11)));
    }

    private static void promise11NumbersAndValuesStay() {
        Belowhouse house = Edge.world();
        Due.is("turn of the letter N", house.turn(0), 3);
        Due.is("numbers and values", Due.order(house, 0), "4:0 12:-6 0:7 0:0");
        Due.is("turn of two", house.turn(3), 1);
        Due.is("numbers and values of two", Due.order(house, 3), "2:1000 0:-1000");
    }

    private static void promise11Refused() {
        for (int order : new int[] {-1, 4, Edge.LEAST, Edge.MOST}) {
            Edge.isThrown("turn of order " + order, Due.NO_INDEX, Edge::world, it -> it.turn(order));
        }
    }

    /** An order becomes as another one is, or itself. */
    private static void promise12CopiesToItself() {
        int[] things = {4, 0, 9, 2};
        for (int order = 0; order < 4; order++) {
            int it = order;
            Edge.leaves("copy to itself", String.valueOf(things[order]), Edge::world, house -> house.copy(it, it));
        }
    }

    private static void promise12CopiesNoneAndNine() {
        Belowhouse house = Edge.world();
        String full = Due.order(house, 2);
        Due.is("nine over two", house.copy(2, 3), 9);
        Due.is("as the nine", Due.order(house, 3), full);
        Due.is("nine over none", house.copy(2, 1), 9);
        Due.is("as the nine", Due.order(house, 1), full);
        house.lay(0, 0);
        Due.is("none over nine", house.copy(0, 2), 0);
        Due.is("as none", Due.order(house, 2), NO_THINGS);
        Due.is("the others stay", Due.order(house, 1), full);
    }

    /** What changes in the one later does not change in the other one. */
    private static void promise12CopiesAreOfTheirOwn() {
        Belowhouse house = Edge.world();
        String due = Due.order(house, 0);
        house.copy(0, 1);
        house.put(1, 0, 3);
        house.setValue(1, 0, 1);
        house.drop(1, 2);
        Due.is("the one behind changes of the copy", Due.order(house, 0), due);
        house.copy(0, 1);
        house.loose(0, 1, 3);
        house.setValue(0, 3, 1);
        house.turn(0);
        Due.is("the copy behind changes of the one", Due.order(house, 1), due);
    }

    private static void promise12Refused() {
        for (int order : new int[] {-1, 4, Edge.LEAST, Edge.MOST}) {
            Edge.isThrown("copy of order " + order, Due.NO_INDEX, Edge::world, it -> it.copy(order, 0));
            Edge.isThrown("copy into order " + order, Due.NO_INDEX, Edge::world, it -> it.copy(0, order));
            Edge.isThrown("copy to itself of " + order, Due.NO_INDEX, Edge::world, it -> it.copy(order, order));
        }
    }

    private static void promise13NoneBeside() {
        Edge.leaves("none beside none", "0", Edge::world, it -> it.beside(1, 1, 1));
        Edge.leaves("none beside nine", "9", Edge::world, it -> it.beside(1, 2, 2));
        Edge.leaves("nine beside none", "9", Edge::world, it -> it.beside(2, 1, 2));
        Belowhouse house = Edge.world();
        Due.is("none beside none, over nine", house.beside(1, 1, 2), 0);
        Due.is("none are left", Due.order(house, 2), NO_THINGS);
    }

    /** The world, where the orders 0 and 1 have 10 things together. */
    private static Edge.Maker withTen(int first) {
        return () -> {
            Belowhouse house = Edge.world();
            house.chain(0, first);
            house.chain(1, 10 - first);
            return house;
        };
    }

    /** IllegalStateException if it would have more than 9 things. */
    private static void promise13NineAndTen() {
        for (int first = 0; first <= 9; first++) {
            Belowhouse house = new Belowhouse();
            house.chain(0, first);
            house.chain(1, 9 - first);
            Due.is(first + " beside " + (9 - first), house.beside(0, 1, 2), 9);
            Due.is("things then", house.things(2), 9);
        }
        for (int first = 1; first <= 9; first++) {
            Edge.Maker maker = withTen(first);
            Edge.isThrown("10 beside, into another", Due.NO_STATE, maker, it -> it.beside(0, 1, 3));
            Edge.isThrown("10 beside, into the one", Due.NO_STATE, maker, it -> it.beside(0, 1, 0));
            Edge.isThrown("10 beside, into the other", Due.NO_STATE, maker, it -> it.beside(0, 1, 1));
        }
        Edge.isThrown("18 beside", Due.NO_STATE, Edge::world, it -> it.beside(2, 2, 1));
    }

    /** It may be one of both; both count as they were ahead of this. */
    private static void promise13IntoOneOfBoth() {
        String one = "0:0 0:-6 3:7 2:0";
        Belowhouse house = Edge.world();
        Due.is("into the one", house.beside(0, 3, 0), 6);
        Due.is("first the one", Due.order(house, 0), one + " 0:1000 16:-1000");
        Due.is("the other one stays", Due.order(house, 3), "0:1000 1:-1000");
        house = Edge.world();
        Due.is("into the other", house.beside(0, 3, 3), 6);
        Due.is("first the one", Due.order(house, 3), one + " 0:1000 16:-1000");
        Due.is("the one stays", Due.order(house, 0), one);
        house = Edge.world();
        Due.is("into a third", house.beside(3, 0, 2), 6);
        Due.is("first the one", Due.order(house, 2), "0:1000 1:-1000 0:0 0:-6 12:7 8:0");
    }

    /** Both may be the same. */
    private static void promise13BothTheSame() {
        Belowhouse house = Edge.world();
        Due.is("both the same, into another", house.beside(3, 3, 1), 4);
        Due.is("twice", Due.order(house, 1), "0:1000 1:-1000 0:1000 4:-1000");
        Due.is("the one stays", Due.order(house, 3), "0:1000 1:-1000");
        Due.is("all three the same", house.beside(3, 3, 3), 4);
        Due.is("twice too", Due.order(house, 3), "0:1000 1:-1000 0:1000 4:-1000");
    }

    private static void promise13Refused() {
        for (int order : new int[] {-1, 4, Edge.LEAST, Edge.MOST}) {
            Edge.isThrown("beside of one " + order, Due.NO_INDEX, Edge::world, it -> it.beside(order, 3, 0));
            Edge.isThrown("beside of other " + order, Due.NO_INDEX, Edge::world, it -> it.beside(3, order, 0));
            Edge.isThrown("beside into " + order, Due.NO_INDEX, Edge::world, it -> it.beside(3, 3, order));
            Edge.isThrown("18 things into " + order, Due.NO_INDEX, Edge::world, it -> it.beside(2, 2, order));
        }
    }

    private static void promise14NoneAbove() {
        Edge.leaves("none above none", "0", Edge::world, it -> it.above(1, 1, 1));
        Edge.leaves("nine above none", "27", Edge::world, it -> it.above(1, 2, 2));
        Edge.leaves("none above nine", "27", Edge::world, it -> it.above(2, 1, 2));
        Belowhouse house = Edge.world();
        Due.is("none above none, over nine", house.above(1, 1, 2), 0);
        Due.is("none are left", Due.order(house, 2), NO_THINGS);
    }

    /** IllegalStateException if it would have more than 9 things; it returns how many pairs it has then. */
    private static void promise14NineAndTen() {
        for (int first = 0; first <= 9; first++) {
            Belowhouse house = new Belowhouse();
            house.lay(0, first);
            house.lay(1, 9 - first);
            Due.is(first + " below " + (9 - first), house.above(0, 1, 2), first * (9 - first));
            Due.is("things then", house.things(2), 9);
        }
        for (int first = 1; first <= 9; first++) {
            Edge.Maker maker = withTen(first);
            Edge.isThrown("10 above, into another", Due.NO_STATE, maker, it -> it.above(0, 1, 3));
            Edge.isThrown("10 above, into the one", Due.NO_STATE, maker, it -> it.above(0, 1, 0));
            Edge.isThrown("10 above, into the other", Due.NO_STATE, maker, it -> it.above(0, 1, 1));
        }
        Edge.isThrown("18 above", Due.NO_STATE, Edge::world, it -> it.above(2, 2, 1));
    }

    private static void promise14IntoOneOfBoth() {
        String one = "0:0 0:-6 3:7 2:0";
        Belowhouse house = Edge.world();
        Due.is("into the one", house.above(0, 3, 0), 12);
        Due.is("first the one", Due.order(house, 0), one + " 15:1000 31:-1000");
        Due.is("the other one stays", Due.order(house, 3), "0:1000 1:-1000");
        house = Edge.world();
        Due.is("into the other", house.above(0, 3, 3), 12);
        Due.is("first the one", Due.order(house, 3), one + " 15:1000 31:-1000");
        Due.is("the one stays", Due.order(house, 0), one);
        house = Edge.world();
        Due.is("into a third", house.above(3, 0, 2), 12);
        Due.is("first the one", Due.order(house, 2), "0:1000 1:-1000 3:0 3:-6 15:7 11:0");
    }

    private static void promise14BothTheSame() {
        Belowhouse house = Edge.world();
        Due.is("both the same, into another", house.above(3, 3, 1), 6);
        Due.is("twice", Due.order(house, 1), "0:1000 1:-1000 3:1000 7:-1000");
        Due.is("the one stays", Due.order(house, 3), "0:1000 1:-1000");
        Due.is("all three the same", house.above(3, 3, 3), 6);
        Due.is("twice too", Due.order(house, 3), "0:1000 1:-1000 3:1000 7:-1000");
    }

    private static void promise14Refused() {
        for (int order : new int[] {-1, 4, Edge.LEAST, Edge.MOST}) {
            Edge.isThrown("above of one " + order, Due.NO_INDEX, Edge::world, it -> it.above(order, 3, 0));
            Edge.isThrown("above of other " + order, Due.NO_INDEX, Edge::world, it -> it.above(3, order, 0));
            Edge.isThrown("above into " + order, Due.NO_INDEX, Edge::world, it -> it.above(3, 3, order));
            Edge.isThrown("18 things into " + order, Due.NO_INDEX, Edge::world, it -> it.above(2, 2, order));
        }
    }

    private static void promise15NoneAndNine() {
        Edge.leaves("none with none", "0", Edge::world, it -> it.meet(1, 1, 1));
        Edge.leaves("nine with themselves", "27", Edge::world, it -> it.meet(2, 2, 2));
        Belowhouse house = Edge.world();
        Due.is("none with none, over nine", house.meet(1, 1, 2), 0);
        Due.is("none are left", Due.order(house, 2), NO_THINGS);
        house.chain(0, 9);
        house.chain(1, 9);
        house.turn(1);
        Due.is("a chain and the same, turned", house.meet(0, 1, 2), 0);
        Due.is("nine apart", house.widest(2), 9);
    }

    /** It may be one of both. */
    private static void promise15IntoOneOfBoth() {
        for (int into = 0; into < 3; into++) {
            Belowhouse house = Edge.world();
            house.chain(1, 4);
            house.setValue(1, 0, 9);
            Due.is("pairs in common", house.meet(0, 1, into), 3);
            Due.is("the letter N", Due.order(house, into), "0:0 0:-6 3:7 2:0");
            Due.is("the one", Due.order(house, 0), "0:0 0:-6 3:7 2:0");
            Due.is("the other", Due.order(house, 1), into == 1 ? "0:0 0:-6 3:7 2:0" : "0:9 1:0 3:0 7:0");
        }
    }

    /** The things and values of the one, and the pairs that both have. */
    private static void promise15ValuesOfTheOne() {
        Belowhouse house = Edge.world();
        house.lay(1, 2);
        house.setValue(1, 0, 5);
        Due.is("with two apart", house.meet(1, 3, 0), 0);
        Due.is("values of the one", Due.order(house, 0), "0:5 0:0");
        Due.is("the other way", house.meet(3, 1, 0), 0);
        Due.is("values of the one then", Due.order(house, 0), "0:1000 0:-1000");
    }

    /** REFUSED if they have not as many things, also if one of them has none. */
    private static void promise15RefusedIfNotAsMany() {
        int[][] unlike = {{0, 1}, {1, 0}, {0, 2}, {2, 3}, {3, 1}};
        for (int[] both : unlike) {
            for (int into = 0; into < 4; into++) {
                int to = into;
                Edge.isRefused("meet of " + both[0] + " and " + both[1] + " into " + into, Edge::world,
                        it -> it.meet(both[0], both[1], to));
            }
        }
    }

    /** Exceptions go ahead of REFUSED. */
    private static void promise15Refused() {
        for (int order : new int[] {-1, 4, Edge.LEAST, Edge.MOST}) {
            Edge.isThrown("meet of one " + order, Due.NO_INDEX, Edge::world, it -> it.meet(order, 3, 0));
            Edge.isThrown("meet of other " + order, Due.NO_INDEX, Edge::world, it -> it.meet(3, order, 0));
            Edge.isThrown("meet into " + order, Due.NO_INDEX, Edge::world, it -> it.meet(3, 3, order));
            Edge.isThrown("unlike ones into " + order, Due.NO_INDEX, Edge::world, it -> it.meet(0, 3, order));
        }
    }

    private MadeEdgeTest() {
    }
}
