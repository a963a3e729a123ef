import java.util.ArrayList;
import java.util.Collections;
import java.util.List;

/** The terms that the promises use: each sentence of them that names an edge has a test here. */
public final class TermsEdgeTest {
    public static void main(String[] args) {
        lastOf512Calls();
        constants();
        ordersAre0To3();
        thingsAreAtMost9();
        thingsAreNumberedFrom0();
        valuesAreMinus1000To1000();
        pairGoesOnToAllAbove();
        unlikeThingsAreInOrderIfOneIsBelow();
        nothingIsBetweenNextOnes();
        setsAreToldByPowersOf2();
        closedHasAllBelow();
        emptyAndSingleAreChainAndApart();
        fewerThingsComeFirst();
        ofAsManyTheLesserNumberComesFirst();
        withoutThingsThereIsOneRow();
        rowsOfNineThings();
        lesserRowComesFirst();
        numberIs1ForTheSame();
        numberIsTheSumWithTheOtherSign();
        numberIs0Otherwise();
        Due.end("TermsEdgeTest");
    }

    /** An object is used for at most 512 calls: the last one of them is answered as the first ones are. */
    private static void lastOf512Calls() {
        Belowhouse house = new Belowhouse();
        for (int k = 0; k < 127; k++) {
            Due.is("add, again and again", house.add(3, k), 0);
            Due.is("value, again and again", house.value(3, 0), k);
            Due.is("sets, again and again", house.sets(3), 2);
            Due.is("drop, again and again", house.drop(3, 0), k);
        }
        Due.is("the 509th call", house.chain(3, 9), 36);
        Due.is("the 510th call", house.turn(3), 36);
        Due.is("the 511th call", house.rowAt(3, 0), 987654321);
        Belowhouse other = new Belowhouse();
        other.chain(3, 9);
        other.turn(3);
        Due.is("the 512th call", house.checksum(), other.checksum());
    }

    private static void constants() {
        Due.is("NONE", Belowhouse.NONE, -1);
        Due.is("REFUSED", Belowhouse.REFUSED, -9);
    }

    /** There are the orders 0 to 3: each is one of its own, and no other number is one. */
    private static void ordersAre0To3() {
        Belowhouse house = new Belowhouse();
        for (int order = 0; order < 4; order++) {
            house.chain(order, order + 1);
            house.setValue(order, 0, 100 * order);
        }
        Due.is("four orders", Due.state(house), "0:0 / 0:100 1:0 / 0:200 1:0 3:0 / 0:300 1:0 3:0 7:0");
        for (int order : new int[] {-1, 4, 32, Edge.LEAST, Edge.MOST}) {
            Edge.isThrown("things(" + order + ")", Due.NO_INDEX, Edge::world, it -> it.things(order));
        }
    }

    /** Each has things, at most 9, none at first. */
    private static void thingsAreAtMost9() {
        for (int order = 0; order < 4; order++) {
            Belowhouse house = new Belowhouse();
            for (int k = 0; k < 9; k++) {
                Due.is("things ahead of add", house.things(order), k);
                house.add(order, k);
            }
            Due.is("9 things", house.things(order), 9);
            int it = order;
            Due.is("a 10th one", Due.outcome(() -> house.add(it, 9)), "throws java.lang.IllegalStateException");
            Due.is("9 things still", house.things(order), 9);
        }
    }

    /** Each has things, numbered from 0. */
    private static void thingsAreNumberedFrom0() {
        for (int many = 1; many <= 9; many++) {
            int count = many;
            Edge.Maker maker = () -> {
                Belowhouse house = new Belowhouse();
                house.chain(2, count);
                house.setValue(2, 0, 3);
                house.setValue(2, count - 1, 4);
                return house;
            };
            Belowhouse house = maker.make();
            Due.is("the first of " + many, house.value(2, 0), many == 1 ? 4 : 3);
            Due.is("the last of " + many, house.value(2, many - 1), 4);
            Edge.isThrown("one behind the last of " + many, Due.NO_INDEX, maker, it -> it.value(2, count));
            Edge.isThrown("one ahead of the first of " + many, Due.NO_INDEX, maker, it -> it.value(2, -1));
        }
    }

    /** Each thing has a value, -1000 to 1000. */
    private static void valuesAreMinus1000To1000() {
        for (int value : new int[] {-1000, -999, 0, 999, 1000}) {
            Belowhouse house = Edge.world();
            Due.is("add of " + value, house.add(3, value), 2);
            Due.is("what add gives", house.value(3, 2), value);
            house.setValue(2, 8, value);
            Due.is("what setValue gives", house.value(2, 8), value);
        }
        for (int value : new int[] {-1001, 1001, -1000 - (1 << 16), 1000 + (1 << 16), Edge.LEAST, Edge.MOST}) {
            Edge.isThrown("add of " + value, Due.NO_ARGUMENT, Edge::world, it -> it.add(3, value));
            Edge.isThrown("setValue of " + value, Due.NO_ARGUMENT, Edge::world, it -> it.setValue(2, 8, value));
        }
    }

    /** What is below a thing is below all that are above this one as well. */
    private static void pairGoesOnToAllAbove() {
        for (int which = 0; which < Edge.SAMPLES; which++) {
            Belowhouse house = Edge.sample(which);
            int many = house.things(0);
            int[] lower = new int[many];
            for (int thing = 0; thing < many; thing++) {
                lower[thing] = house.lower(0, thing);
            }
            for (int high = 0; high < many; high++) {
                for (int low = 0; low < many; low++) {
                    if ((lower[high] & 1 << low) != 0) {
                        Due.is("below " + low + " and not " + high + " in " + which, lower[low] & ~lower[high], 0);
                    }
                }
            }
        }
    }

    /** Two unlike things are in order if one of them is below the other one; a thing is not in order with itself. */
    private static void unlikeThingsAreInOrderIfOneIsBelow() {
        Belowhouse house = Edge.sample(4);
        Due.is("1 is below 0", house.sign(0, 1, 0), '<');
        Due.is("0 is above 1", house.sign(0, 0, 1), '>');
        Due.isTrue("in order, the greater number below", house.isChain(0, 3));
        Due.isFalse("and not apart", house.isApart(0, 3));
        Due.is("one pair, not two", house.pairs(0), 1);
        Due.is("a thing and itself", house.sign(0, 1, 1), '=');
        Due.isTrue("a thing alone is apart", house.isApart(0, 2));
    }

    /** The one is next below the other one if it is below it and nothing is between. */
    private static void nothingIsBetweenNextOnes() {
        Belowhouse house = Edge.sample(11);
        for (int low = 0; low < 9; low++) {
            for (int high = 0; high < 9; high++) {
                Due.is(low + " next below " + high, house.isNext(0, low, high), low == high + 1);
            }
        }
        Belowhouse fan = Edge.sample(12);
        Due.isFalse("one of seven is enough to be between", fan.isNext(0, 0, 8));
        for (int thing = 1; thing < 7; thing++) {
            fan.drop(0, 1);
        }
        Due.isFalse("the last one between", fan.isNext(0, 0, 2));
        fan.drop(0, 1);
        Due.isTrue("nothing is between", fan.isNext(0, 0, 1));
    }

    /** A set of things is told as the sum of 2 to the power of k for each thing k in it. */
    private static void setsAreToldByPowersOf2() {
        Belowhouse house = Edge.sample(10);
        for (int thing = 0; thing < 9; thing++) {
            Due.is("all below " + thing, house.lower(0, thing), (1 << thing) - 1);
            Due.is("all above " + thing, house.upper(0, thing), 512 - (2 << thing));
        }
        house.lay(0, 9);
        Due.is("all of 9", house.ends(0, true), 511);
        house.lay(0, 1);
        Due.is("the one of 1", house.ends(0, true), 1);
        house.lay(0, 0);
        Due.is("none of none", house.ends(0, true), 0);
    }

    /** It is closed if it has, with each thing, all that are below that: the empty set and that of all always are. */
    private static void closedHasAllBelow() {
        for (int which = 0; which < Edge.SAMPLES; which++) {
            Belowhouse house = Edge.sample(which);
            int all = (1 << house.things(0)) - 1;
            int sets = house.sets(0);
            Due.is("the empty set of " + which, house.placeOf(0, 0), 0);
            Due.is("all of " + which, house.placeOf(0, all), sets - 1);
            for (int thing = 0; 1 << thing <= all; thing++) {
                int lower = house.lower(0, thing);
                Due.isTrue("all below " + thing + " in " + which, house.placeOf(0, lower) >= 0);
                Due.isTrue("and itself", house.placeOf(0, lower | 1 << thing) >= 0);
                Due.is("a thing alone in " + which, house.placeOf(0, 1 << thing) >= 0, lower == 0);
            }
        }
    }

    /** The empty set, and that of one thing, are both: a chain, and apart. */
    private static void emptyAndSingleAreChainAndApart() {
        for (int which = 0; which < Edge.SAMPLES; which++) {
            Belowhouse house = Edge.sample(which);
            Due.isTrue("the empty set is a chain in " + which, house.isChain(0, 0));
            Due.isTrue("the empty set is apart in " + which, house.isApart(0, 0));
            int many = house.things(0);
            for (int thing = 0; thing < many; thing++) {
                Due.isTrue(thing + " is a chain in " + which, house.isChain(0, 1 << thing));
                Due.isTrue(thing + " is apart in " + which, house.isApart(0, 1 << thing));
            }
        }
    }

    /** In the sequence of sets one with fewer things comes first. */
    private static void fewerThingsComeFirst() {
        Belowhouse house = Edge.sample(9);
        Due.is("256 has one thing", house.placeOf(0, 256), 9);
        Due.is("3 has two", house.placeOf(0, 3), 10);
        Due.is("behind 256 comes 3", house.near(0, 256, 'h'), 3);
        Due.is("ahead of 3 comes 256", house.near(0, 3, 'l'), 256);
        Due.is("behind 510 comes 511", house.near(0, 510, 'h'), 511);
        Due.is("ahead of 255 comes 508", house.near(0, 255, 'l'), 508);
    }

    /** Of as many, the one that is told by the lesser number comes first. */
    private static void ofAsManyTheLesserNumberComesFirst() {
        Belowhouse house = new Belowhouse();
        house.lay(1, 8);
        int ahead = house.setAt(1, 0);
        Due.is("the first", ahead, 0);
        for (int place = 1; place < 256; place++) {
            int set = house.setAt(1, place);
            int more = Integer.bitCount(set) - Integer.bitCount(ahead);
            Due.isTrue(ahead + " comes ahead of " + set, more == 1 || more == 0 && ahead < set);
            ahead = set;
        }
        Due.is("the last", ahead, 255);
    }

    /** Without things it is 0, and there is that one row. */
    private static void withoutThingsThereIsOneRow() {
        Belowhouse house = Edge.world();
        Due.is("rows", house.rows(1), 1);
        Due.is("the row", house.rowAt(1, 0), 0);
        Due.is("its place", house.rowPlace(1, 0), 0);
        Due.is("none follows", house.nextRow(1, 0), Belowhouse.NONE);
        Edge.isThrown("a second row", Due.NO_INDEX, Edge::world, it -> it.rowAt(1, 1));
    }

    /** Its things, each one more by 1, are its decimal digits: nine of them at the most. */
    private static void rowsOfNineThings() {
        Due.is("up", Edge.sample(10).rowAt(0, 0), 123456789);
        Due.is("down", Edge.sample(11).rowAt(0, 0), 987654321);
        Belowhouse house = new Belowhouse();
        house.lay(0, 1);
        Due.is("one thing", house.rowAt(0, 0), 1);
    }

    /** In the sequence of rows the one with the lesser number comes first. */
    private static void lesserRowComesFirst() {
        for (int which = 0; which < Edge.SAMPLES; which++) {
            Belowhouse house = Edge.sample(which);
            int rows = house.rows(0);
            List<Integer> found = new ArrayList<>();
            for (int place = 0; place < rows && place < 300; place++) {
                found.add(house.rowAt(0, place));
            }
            List<Integer> sorted = new ArrayList<>(found);
            Collections.sort(sorted);
            Due.is("the rows of " + which, found, sorted);
        }
    }

    /** The NUMBER of x and y is 1 if both are the same. */
    private static void numberIs1ForTheSame() {
        for (int which = 0; which < Edge.SAMPLES; which++) {
            Belowhouse house = Edge.sample(which);
            int many = house.things(0);
            for (int thing = 0; thing < many; thing++) {
                Due.is(thing + " and itself in " + which, house.number(0, thing, thing), 1);
            }
        }
    }

    /** If x is below y, it is the sum for x itself and all z between, with the other sign. */
    private static void numberIsTheSumWithTheOtherSign() {
        Due.is("nothing between", Edge.sample(3).number(0, 0, 1), -1);
        Due.is("nothing between, turned", Edge.sample(4).number(0, 1, 0), -1);
        Due.is("a chain between", Edge.sample(10).number(0, 0, 8), 0);
        Due.is("seven between", Edge.sample(12).number(0, 0, 8), 6);
        Belowhouse ranks = new Belowhouse();
        ranks.lay(0, 3);
        ranks.lay(1, 4);
        ranks.above(0, 1, 0);
        ranks.lay(1, 1);
        ranks.above(1, 0, 0);
        ranks.above(0, 1, 0);
        Due.is("three and four between", ranks.number(0, 0, 8), -6);
    }

    /** Otherwise it is 0: for what is above, and for what is not in order. */
    private static void numberIs0Otherwise() {
        Due.is("what is above", Edge.sample(3).number(0, 1, 0), 0);
        Due.is("what is not in order", Edge.sample(2).number(0, 0, 1), 0);
        Due.is("far above", Edge.sample(10).number(0, 8, 0), 0);
        Due.is("two of seven", Edge.sample(12).number(0, 1, 7), 0);
    }

    private TermsEdgeTest() {
    }
}
