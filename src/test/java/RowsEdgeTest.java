/** Promises 43 to 50: each sentence of theirs that names an edge has a test here. */
public final class RowsEdgeTest {
    private static final int[] NO_ORDERS = {-1, 4, Edge.LEAST, Edge.MOST};
    private static final int NONE = Belowhouse.NONE;
    private static final int[] ROWS = {1, 1, 2, 1, 1, 5, 5, 48, 42, 362880, 1, 1, 5040, 216};
    private static final int[] FIRST = {0, 1, 12, 12, 21, 1234, 123456, 123456, 123456789, 123456789, 123456789,
        987654321, 123456789, 123456789};
    private static final int[] LAST = {0, 1, 21, 12, 21, 2413, 132546, 324165, 147258369, 987654321, 123456789,
        987654321, 187654329, 321654987};

    public static void main(String[] args) {
        promise43OneToMost();
        promise44FirstAndLast();
        promise44NoSuchPlace();
        promise45FirstAndLast();
        promise45NoneIfNoRow();
        promise45AnyNumber();
        promise46FollowsToTheLast();
        promise46NoneBehindTheLast();
        promise46NoRow();
        promise47NoneToAll();
        promise48EachPlace();
        promise48AnyOtherNumber();
        promise49LeastAndGreatest();
        promise49DividedAsDoubles();
        promise50NoneToAll();
        promise50DividedAsFloats();
        noSuchOrder();
        noSuchThing();
        Due.end("RowsEdgeTest");
    }

    private static Edge.Maker sampleMaker(int which) {
        return () -> Edge.sample(which);
    }

    private static void promise43OneToMost() {
        for (int which = 0; which < Edge.SAMPLES; which++) {
            Due.is("rows of " + which, Edge.sample(which).rows(0), ROWS[which]);
        }
        int due = 1;
        for (int many = 0; many <= 9; many++) {
            due *= Math.max(1, many);
            Belowhouse house = new Belowhouse();
            house.lay(3, many);
            Due.is("rows of " + many + " apart", house.rows(3), due);
        }
    }

    /** place: from 0. */
    private static void promise44FirstAndLast() {
        for (int which = 0; which < Edge.SAMPLES; which++) {
            Due.is("the first of " + which, Edge.sample(which).rowAt(0, 0), FIRST[which]);
            Due.is("the last of " + which, Edge.sample(which).rowAt(0, ROWS[which] - 1), LAST[which]);
        }
    }

    private static void promise44NoSuchPlace() {
        for (int which = 0; which < Edge.SAMPLES; which++) {
            Edge.Maker maker = sampleMaker(which);
            for (int place : new int[] {-1, ROWS[which], ROWS[which] + 1, Edge.LEAST, Edge.MOST}) {
                Edge.isThrown("rowAt " + place + " in " + which, Due.NO_INDEX, maker, it -> it.rowAt(0, place));
            }
        }
    }

    private static void promise45FirstAndLast() {
        for (int which = 0; which < Edge.SAMPLES; which++) {
            Due.is("the place of the first of " + which, Edge.sample(which).rowPlace(0, FIRST[which]), 0);
            Due.is("the place of the last of " + which, Edge.sample(which).rowPlace(0, LAST[which]), ROWS[which] - 1);
        }
    }

    /** NONE if it is no row of the order: a digit too few, too many, twice, 0, or of no thing, or a thing too early. */
    private static void promise45NoneIfNoRow() {
        int[] others = {0, 1, 4, 123, 241, 12340, 12341, 1123, 1224, 1244, 1230, 1034, 1235, 1239, 3124, 4213, 1324,
            2341, 4321, 1111, 9999, 10234, 11234, 51234, -1234, -2413};
        for (int row : others) {
            Edge.leaves("the place of " + row, "-1", Edge::world, it -> it.rowPlace(0, row));
        }
        for (int row : new int[] {987654321, 123456780, 12345678, 1234567899, 1023456789, 213456789, 123456788}) {
            Edge.leaves("the place of " + row + " of nine", "-1", Edge::world, it -> it.rowPlace(2, row));
        }
        Due.is("21 of 12", Edge.sample(3).rowPlace(0, 21), NONE);
        Due.is("12 of 21", Edge.sample(4).rowPlace(0, 12), NONE);
        Due.is("12 of one", Edge.sample(1).rowPlace(0, 12), NONE);
        Due.is("0 of one", Edge.sample(1).rowPlace(0, 0), NONE);
        Due.is("2 of one", Edge.sample(1).rowPlace(0, 2), NONE);
    }

    /** row: any number; without things it is 0. */
    private static void promise45AnyNumber() {
        int[] others = {-1, 1, 10, Edge.LEAST, Edge.LEAST + 1, Edge.MOST, Edge.MOST - 1, 2123456789, -987654321};
        for (int order = 0; order < 4; order++) {
            int it = order;
            for (int row : others) {
                Edge.leaves("the place of " + row + " in " + order, "-1", Edge::world,
                        house -> house.rowPlace(it, row));
            }
        }
        for (int row : others) {
            Due.is("the place of " + row + ", nine apart", Edge.sample(9).rowPlace(0, row), NONE);
        }
        Edge.leaves("the place of 0 of none", "0", Edge::world, it -> it.rowPlace(1, 0));
    }

    /** The row that follows in the sequence. */
    private static void promise46FollowsToTheLast() {
        for (int which = 0; which < Edge.SAMPLES; which++) {
            Belowhouse house = Edge.sample(which);
            int row = FIRST[which];
            for (int place = 1; place < ROWS[which] && place < 200; place++) {
                row = house.nextRow(0, row);
                Due.is("row " + place + " of " + which, house.rowAt(0, place), row);
            }
            if (ROWS[which] > 1) {
                int lastButOne = house.rowAt(0, ROWS[which] - 2);
                Due.is("behind the last but one of " + which, house.nextRow(0, lastButOne), LAST[which]);
            }
        }
    }

    /** NONE behind the last one. */
    private static void promise46NoneBehindTheLast() {
        for (int which = 0; which < Edge.SAMPLES; which++) {
            Edge.leaves("behind the last of " + which, "-1", sampleMaker(which), lastOf(which));
        }
    }

    private static Edge.Call lastOf(int which) {
        return house -> house.nextRow(0, LAST[which]);
    }

    /** IllegalArgumentException if it is no row of the order. */
    private static void promise46NoRow() {
        int[] others = {-1, 1, 10, 123, 1124, 3124, 12345, Edge.LEAST, Edge.MOST, -1234, 1234567890};
        for (int order = 0; order < 4; order++) {
            int it = order;
            for (int row : others) {
                Edge.isThrown("behind " + row + " in " + order, Due.NO_ARGUMENT, Edge::world,
                        house -> house.nextRow(it, row));
            }
        }
        Edge.isThrown("behind 0, which is of none", Due.NO_ARGUMENT, Edge::world, it -> it.nextRow(0, 0));
        Edge.isThrown("no order, and no row", Due.NO_INDEX, Edge::world, it -> it.nextRow(4, -1));
    }

    /** How many, 0 if both are the same. */
    private static void promise47NoneToAll() {
        for (int which = 0; which < Edge.SAMPLES; which++) {
            Belowhouse house = Edge.sample(which);
            int many = house.things(0);
            for (int one = 0; one < many; one++) {
                Due.is(one + " ahead of itself in " + which, house.rowsWith(0, one, one), 0);
                int other = many - 1 - one;
                if (one != other) {
                    int both = house.rowsWith(0, one, other) + house.rowsWith(0, other, one);
                    Due.is("one or the other ahead in " + which, both, ROWS[which]);
                }
            }
        }
        Belowhouse chain = Edge.sample(10);
        Due.is("the first ahead of the last", chain.rowsWith(0, 0, 8), 1);
        Due.is("the last ahead of the first", chain.rowsWith(0, 8, 0), 0);
        Due.is("half of all", Edge.sample(9).rowsWith(0, 0, 8), 181440);
        Due.is("half of all, the other way", Edge.sample(9).rowsWith(0, 8, 0), 181440);
    }

    private static void promise48EachPlace() {
        for (int which = 0; which < Edge.SAMPLES; which++) {
            Belowhouse house = Edge.sample(which);
            int many = house.things(0);
            for (int thing = 0; thing < many; thing++) {
                int all = 0;
                for (int place = 0; place < many; place++) {
                    all += house.rowsAt(0, thing, place);
                }
                Due.is("the places of " + thing + " in " + which, all, ROWS[which]);
                Due.is("with all ahead of " + thing + " in " + which, house.rowsAt(0, thing, many), 0);
            }
        }
        Due.is("the first of a chain as the first", Edge.sample(10).rowsAt(0, 0, 0), 1);
        Due.is("the last of a chain as the last", Edge.sample(10).rowsAt(0, 8, 8), 1);
        Due.is("the last of a chain as the first", Edge.sample(10).rowsAt(0, 8, 0), 0);
        Due.is("one of nine apart as the last", Edge.sample(9).rowsAt(0, 8, 8), 40320);
        Due.is("the one of one", Edge.sample(1).rowsAt(0, 0, 0), 1);
    }

    /** place: how many, or any other number. */
    private static void promise48AnyOtherNumber() {
        for (int place : new int[] {-1, 9, 10, 32, 33, -32, 256, Edge.LEAST, Edge.MOST}) {
            Edge.leaves("rows behind " + place, "0", Edge::world, it -> it.rowsAt(2, 8, place));
            Edge.leaves("rows of the letter N behind " + place, "0", Edge::world, it -> it.rowsAt(0, 0, place));
        }
        Edge.isThrown("no thing, and any other number", Due.NO_INDEX, Edge::world, it -> it.rowsAt(0, 4, -1));
    }

    /** 0 is the least mean, and one less than there are things the greatest. */
    private static void promise49LeastAndGreatest() {
        Due.is("the first of a chain", Edge.sample(10).meanPlace(0, 0), 0.0);
        Due.is("the last of a chain", Edge.sample(10).meanPlace(0, 8), 8.0);
        Due.is("the last of a fan", Edge.sample(12).meanPlace(0, 8), 8.0);
        Due.is("one of a fan", Edge.sample(12).meanPlace(0, 4), 4.0);
        Due.is("one of nine apart", Edge.sample(9).meanPlace(0, 0), 4.0);
        Due.is("the one of one", Edge.sample(1).meanPlace(0, 0), 0.0);
        Due.is("one of two apart", Edge.sample(2).meanPlace(0, 1), 0.5);
    }

    /** The sum as a double, divided by how many there are, as a double: no float has these, and none is cut. */
    private static void promise49DividedAsDoubles() {
        Due.is("4 of 5", Edge.sample(5).meanPlace(0, 0), 0.8);
        Due.is("11 of 5", Edge.sample(5).meanPlace(0, 3), 2.2);
        Belowhouse house = new Belowhouse();
        house.lay(0, 3);
        house.put(0, 0, 1);
        Due.is("2 of 3: 123, 132, 312", house.meanPlace(0, 0), 1.0 / 3.0);
        Due.is("5 of 3", house.meanPlace(0, 1), 5.0 / 3.0);
        house.lay(0, 7);
        house.put(0, 6, 0);
        Due.is("4200 of 2520", house.meanPlace(0, 6), 4200.0 / 2520.0);
    }

    /** From 0 to 1. */
    private static void promise50NoneToAll() {
        for (int which = 0; which < Edge.SAMPLES; which++) {
            Belowhouse house = Edge.sample(which);
            int many = house.things(0);
            for (int thing = 0; thing < many; thing++) {
                Due.is(thing + " ahead of itself in " + which, house.share(0, thing, thing), 0.0f);
            }
        }
        Due.is("below", Edge.sample(4).share(0, 1, 0), 1.0f);
        Due.is("above", Edge.sample(4).share(0, 0, 1), 0.0f);
        Due.is("far below", Edge.sample(10).share(0, 0, 8), 1.0f);
        Due.is("half of most", Edge.sample(9).share(0, 8, 0), 0.5f);
    }

    /** Their number, as a float, divided by that of all rows, as a float. */
    private static void promise50DividedAsFloats() {
        Due.is("2 of 5", Edge.sample(5).share(0, 0, 1), 0.4f);
        Due.is("3 of 5", Edge.sample(5).share(0, 1, 0), 0.6f);
        Belowhouse house = new Belowhouse();
        house.lay(0, 3);
        house.put(0, 0, 1);
        Due.is("2 of 3", house.share(0, 0, 2), 2.0f / 3.0f);
        Due.is("1 of 3", house.share(0, 2, 0), 1.0f / 3.0f);
    }

    private static void noSuchOrder() {
        for (int order : NO_ORDERS) {
            String what = " of order " + order;
            Edge.isThrown("rows" + what, Due.NO_INDEX, Edge::world, it -> it.rows(order));
            Edge.isThrown("rowAt" + what, Due.NO_INDEX, Edge::world, it -> it.rowAt(order, 0));
            Edge.isThrown("rowPlace" + what, Due.NO_INDEX, Edge::world, it -> it.rowPlace(order, 0));
            Edge.isThrown("nextRow" + what, Due.NO_INDEX, Edge::world, it -> it.nextRow(order, 0));
            Edge.isThrown("nextRow, no row" + what, Due.NO_INDEX, Edge::world, it -> it.nextRow(order, -1));
            Edge.isThrown("rowsWith" + what, Due.NO_INDEX, Edge::world, it -> it.rowsWith(order, 0, 1));
            Edge.isThrown("rowsAt" + what, Due.NO_INDEX, Edge::world, it -> it.rowsAt(order, 0, 0));
            Edge.isThrown("meanPlace" + what, Due.NO_INDEX, Edge::world, it -> it.meanPlace(order, 0));
            Edge.isThrown("share" + what, Due.NO_INDEX, Edge::world, it -> it.share(order, 0, 1));
        }
    }

    /** Ahead of the first thing, behind the last one, and any where none are. */
    private static void noSuchThing() {
        int[][] unlike = {{0, -1}, {0, 4}, {1, 0}, {1, -1}, {2, 9}, {2, -1}, {3, 2}, {3, Edge.MOST}, {3, Edge.LEAST}};
        for (int[] both : unlike) {
            int order = both[0];
            int thing = both[1];
            String what = " of thing " + thing + " in " + order;
            Edge.isThrown("rowsWith" + what, Due.NO_INDEX, Edge::world, it -> it.rowsWith(order, thing, 0));
            Edge.isThrown("rowsWith, the other" + what, Due.NO_INDEX, Edge::world, it -> it.rowsWith(order, 0, thing));
            Edge.isThrown("rowsWith, both" + what, Due.NO_INDEX, Edge::world, it -> it.rowsWith(order, thing, thing));
            Edge.isThrown("rowsAt" + what, Due.NO_INDEX, Edge::world, it -> it.rowsAt(order, thing, 0));
            Edge.isThrown("meanPlace" + what, Due.NO_INDEX, Edge::world, it -> it.meanPlace(order, thing));
            Edge.isThrown("share" + what, Due.NO_INDEX, Edge::world, it -> it.share(order, thing, 0));
            Edge.isThrown("share, the other" + what, Due.NO_INDEX, Edge::world, it -> it.share(order, 0, thing));
            Edge.isThrown("share, both" + what, Due.NO_INDEX, Edge::world, it -> it.share(order, thing, thing));
        }
    }

    private RowsEdgeTest() {
    }
}
