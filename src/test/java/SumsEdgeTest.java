/** Promises 51 to 53: each sentence of theirs that names an edge has a test here. */
public final class SumsEdgeTest {
    public static void main(String[] args) {
        promise51ItselfAlone();
        promise51LeastAndGreatest();
        promise51NotOfThoseAboveOrApart();
        promise52TheSameAndOtherwise();
        promise52FarFrom0();
        promise53ItselfAlone();
        promise53LeastAndGreatest();
        noSuchOrder();
        noSuchThing();
        Due.end("SumsEdgeTest");
    }

    private static Belowhouse withValues(int which, int value) {
        Belowhouse house = Edge.sample(which);
        int many = house.things(0);
        for (int thing = 0; thing < many; thing++) {
            house.setValue(0, thing, value);
        }
        return house;
    }

    /** The sum of the values of a thing and of all below it: none may be. */
    private static void promise51ItselfAlone() {
        Due.is("the one of one", withValues(1, -1000).sum(0, 0), -1000);
        Due.is("one of nine apart", withValues(9, 1000).sum(0, 8), 1000);
        Due.is("the least of a chain", withValues(10, 7).sum(0, 0), 7);
        Due.is("the least of a chain, turned", withValues(11, 7).sum(0, 8), 7);
    }

    private static void promise51LeastAndGreatest() {
        for (int value : new int[] {-1000, 1000}) {
            Due.is("the greatest of a chain", withValues(10, value).sum(0, 8), 9 * value);
            Due.is("the greatest of a chain, turned", withValues(11, value).sum(0, 0), 9 * value);
            Due.is("the greatest of a fan", withValues(12, value).sum(0, 8), 9 * value);
        }
        Due.is("values that go up to nothing", Edge.world().sum(2, 8), 0);
        Due.is("the greatest value and the least", Edge.world().sum(3, 1), 0);
    }

    private static void promise51NotOfThoseAboveOrApart() {
        Belowhouse house = Edge.world();
        Due.is("1 has three above it", house.sum(0, 1), -6);
        Due.is("2 has two below it", house.sum(0, 2), 1);
        Due.is("3 has one below it", house.sum(0, 3), -6);
        Due.is("the middle of nine", house.sum(2, 4), -1000 - 750 - 250);
    }

    /** 1 if both are the same, else 0 if the one is not below the other one. */
    private static void promise52TheSameAndOtherwise() {
        Due.is("the one of one", Edge.sample(1).number(0, 0, 0), 1);
        Due.is("the ninth and itself", Edge.sample(9).number(0, 8, 8), 1);
        Due.is("the ninth and the first, apart", Edge.sample(9).number(0, 8, 0), 0);
        Due.is("what is above", Edge.sample(4).number(0, 0, 1), 0);
        Due.is("what is next below", Edge.sample(4).number(0, 1, 0), -1);
        Due.is("what is above two ranks", Edge.sample(13).number(0, 8, 0), 0);
    }

    /** NUMBERS of both signs, as far from 0 as those of nine things get, or nearly so. */
    private static void promise52FarFrom0() {
        Belowhouse house = new Belowhouse();
        house.lay(0, 1);
        house.lay(1, 3);
        house.above(0, 1, 2);
        house.above(2, 1, 2);
        house.above(2, 0, 2);
        Due.is("three and three between", house.number(2, 0, 7), -4);
        house.turn(2);
        Due.is("three and three between, turned", house.number(2, 7, 0), -4);
        house.lay(1, 4);
        house.lay(3, 3);
        house.above(0, 3, 2);
        house.above(2, 1, 2);
        house.above(2, 0, 2);
        Due.is("three and four between", house.number(2, 0, 8), -6);
        Due.is("seven between", Edge.sample(12).number(0, 0, 8), 6);
        Due.is("four of a square of nine", Edge.sample(8).number(0, 0, 4), 1);
        Due.is("all of a square of nine", Edge.sample(8).number(0, 0, 8), 0);
        for (int high = 2; high < 9; high++) {
            Due.is("far below in a chain", Edge.sample(10).number(0, 0, high), 0);
        }
    }

    private static void promise53ItselfAlone() {
        Due.is("the one of one", withValues(1, -1000).undone(0, 0), -1000);
        Due.is("one of nine apart", withValues(9, 1000).undone(0, 8), 1000);
        Due.is("the least of a chain", withValues(10, 7).undone(0, 0), 7);
    }

    private static void promise53LeastAndGreatest() {
        for (int which : Edge.FULL) {
            for (int value : new int[] {-1000, 1000}) {
                Belowhouse house = withValues(which, value);
                for (int thing = 0; thing < 9; thing++) {
                    Due.is("undone of " + thing + " in " + which, house.undone(0, thing), value);
                }
            }
        }
    }

    private static void noSuchOrder() {
        for (int order : new int[] {-1, 4, Edge.LEAST, Edge.MOST}) {
            String what = " of order " + order;
            Edge.isThrown("sum" + what, Due.NO_INDEX, Edge::world, it -> it.sum(order, 0));
            Edge.isThrown("number" + what, Due.NO_INDEX, Edge::world, it -> it.number(order, 0, 1));
            Edge.isThrown("undone" + what, Due.NO_INDEX, Edge::world, it -> it.undone(order, 0));
        }
    }

    /** Ahead of the first thing, behind the last one, and any where none are. */
    private static void noSuchThing() {
        int[][] unlike = {{0, -1}, {0, 4}, {1, 0}, {1, -1}, {2, 9}, {2, -1}, {3, 2}, {3, Edge.MOST}, {3, Edge.LEAST}};
        for (int[] both : unlike) {
            int order = both[0];
            int thing = both[1];
            String what = " of thing " + thing + " in " + order;
            Edge.isThrown("sum" + what, Due.NO_INDEX, Edge::world, it -> it.sum(order, thing));
            Edge.isThrown("number" + what, Due.NO_INDEX, Edge::world, it -> it.number(order, thing, 0));
            Edge.isThrown("number, the other" + what, Due.NO_INDEX, Edge::world, it -> it.number(order, 0, thing));
            Edge.isThrown("number, both" + what, Due.NO_INDEX, Edge::world, it -> it.number(order, thing, thing));
            Edge.isThrown("undone" + what, Due.NO_INDEX, Edge::world, it -> it.undone(order, thing));
        }
    }

    private SumsEdgeTest() {
    }
}
