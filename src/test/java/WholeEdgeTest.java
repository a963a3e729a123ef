import java.math.BigInteger;

/** Promises 54 to 56: each sentence of theirs that names an edge has a test here. */
public final class WholeEdgeTest {
    private static final BigInteger TURN = BigInteger.ONE.shiftLeft(64);

    public static void main(String[] args) {
        promise54AlwaysTrue();
        promise54NothingChanges();
        promise54NoSuchOrder();
        promise55AlwaysTrue();
        promise55MoreThanNineThings();
        promise55NothingChanges();
        promise55NoSuchOrder();
        promise56OfANewObject();
        promise56GoesRound();
        promise56OrderByOrder();
        promise56EachPartCounts();
        promise56NothingChanges();
        Due.end("WholeEdgeTest");
    }

    /** Returns whether it is; always true: whatever the order, and whatever its values. */
    private static void promise54AlwaysTrue() {
        for (int which = 0; which < Edge.SAMPLES; which++) {
            for (int value : new int[] {-1000, 0, 1000}) {
                Belowhouse house = Edge.sample(which);
                int many = house.things(0);
                for (int thing = 0; thing < many; thing++) {
                    house.setValue(0, thing, thing % 2 == 0 ? value : -value);
                }
                Due.isTrue("isSound of " + which, house.isSound(0));
            }
        }
    }

    private static void promise54NothingChanges() {
        for (int order = 0; order < 4; order++) {
            int it = order;
            Edge.leaves("isSound of " + order, "true", Edge::world, house -> house.isSound(it));
        }
        Edge.leaves("isSound of nine apart", "true", () -> Edge.sample(9), house -> house.isSound(0));
    }

    private static void promise54NoSuchOrder() {
        for (int order : new int[] {-1, 4, Edge.LEAST, Edge.MOST}) {
            Edge.isThrown("isSound of order " + order, Due.NO_INDEX, Edge::world, it -> it.isSound(order));
        }
    }

    /** Two orders that have at most 9 things together, one of them, or both, with none. */
    private static void promise55AlwaysTrue() {
        for (int first = 0; first <= 9; first++) {
            for (int second = 0; first + second <= 9; second++) {
                Belowhouse house = new Belowhouse();
                house.lay(0, first);
                house.chain(1, second);
                Due.isTrue("areSound of " + first + " and " + second, house.areSound(0, 1));
                Due.isTrue("areSound of " + second + " and " + first, house.areSound(1, 0));
                Due.isTrue("areSound of " + first + " and itself", house.areSound(0, 0));
            }
        }
    }

    /** If they have more, nothing is looked at, and it is true. */
    private static void promise55MoreThanNineThings() {
        for (int which : Edge.FULL) {
            for (int other = 0; other < Edge.SAMPLES; other++) {
                Belowhouse house = Edge.sample(which);
                Edge.fill(house, 3, other);
                Due.isTrue("areSound of " + which + " and " + other, house.areSound(0, 3));
                Due.isTrue("areSound of " + other + " and " + which, house.areSound(3, 0));
                Due.isTrue("areSound of " + which + " and itself", house.areSound(0, 0));
            }
        }
    }

    private static void promise55NothingChanges() {
        for (int one = 0; one < 4; one++) {
            for (int other = 0; other < 4; other++) {
                int first = one;
                int second = other;
                Edge.leaves("areSound of " + one + " and " + other, "true", Edge::world,
                        house -> house.areSound(first, second));
            }
        }
    }

    private static void promise55NoSuchOrder() {
        for (int order : new int[] {-1, 4, Edge.LEAST, Edge.MOST}) {
            Edge.isThrown("areSound of one " + order, Due.NO_INDEX, Edge::world, it -> it.areSound(order, 2));
            Edge.isThrown("areSound of other " + order, Due.NO_INDEX, Edge::world, it -> it.areSound(2, order));
            Edge.isThrown("areSound of both " + order, Due.NO_INDEX, Edge::world, it -> it.areSound(order, order));
        }
    }

    /** The sum without an end, so that it can be seen where a long goes round. */
    private static BigInteger endless(Belowhouse house) {
        BigInteger total = BigInteger.valueOf(17);
        for (int order = 0; order < 4; order++) {
            total = more(total, house.things(order));
            int many = house.things(order);
            for (int thing = 0; thing < many; thing++) {
                total = more(total, house.lower(order, thing));
                total = more(total, house.value(order, thing));
            }
            total = more(total, house.sets(order));
            total = more(total, house.rows(order));
            total = more(total, house.widest(order));
            total = more(total, house.longest(order));
        }
        return total;
    }

    private static BigInteger more(BigInteger total, int v) {
        return total.multiply(BigInteger.valueOf(31)).add(BigInteger.valueOf(v));
    }

    /** It is 17 at first, and becomes 31 times itself and v more: 0, 1, 1, 0, 0 for each order without things. */
    private static void promise56OfANewObject() {
        long due = 17;
        for (int order = 0; order < 4; order++) {
            for (int v : new int[] {0, 1, 1, 0, 0}) {
                due = 31 * due + v;
            }
        }
        Due.is("the checksum of a new object", new Belowhouse().checksum(), due);
        Due.is("and without an end", endless(new Belowhouse()).mod(TURN), BigInteger.valueOf(due).mod(TURN));
    }

    /** A long that goes round. */
    private static void promise56GoesRound() {
        boolean wasBelow0 = false;
        boolean wasAbove0 = false;
        for (int which = 0; which < Edge.SAMPLES; which++) {
            for (int value : new int[] {-1000, -1, 1000}) {
                Belowhouse house = Edge.sample(which);
                house.lay(3, 2);
                house.setValue(3, 1, value);
                BigInteger endless = endless(house);
                long got = house.checksum();
                Due.is("the checksum of " + which + " and " + value, got, endless.longValue());
                Due.isTrue("the sum of " + which + " is more than a long holds", endless.bitLength() > 64);
                wasBelow0 |= got < 0;
                wasAbove0 |= got > 0;
            }
        }
        Due.isTrue("it went round to both sides of 0", wasBelow0 && wasAbove0);
    }

    /** Order by order, in their sequence. */
    private static void promise56OrderByOrder() {
        Belowhouse house = Edge.world();
        Due.is("four unlike orders", house.checksum(), endless(house).longValue());
        long ahead = house.checksum();
        house.copy(0, 1);
        house.copy(3, 0);
        house.copy(1, 3);
        house.lay(1, 0);
        Due.is("two of them the other way round", house.checksum(), endless(house).longValue());
        Due.isFalse("that is another sum", house.checksum() == ahead);
        for (int order = 0; order < 4; order++) {
            Belowhouse one = new Belowhouse();
            one.chain(order, 9);
            Due.is("a chain of 9 as order " + order, one.checksum(), endless(one).longValue());
        }
    }

    /** How many things; all below each, and its value; sets(), rows(), widest(), longest(). */
    private static void promise56EachPartCounts() {
        Belowhouse house = Edge.sample(9);
        Due.is("nine apart", house.checksum(), endless(house).longValue());
        house.setValue(0, 8, -1000);
        Due.is("the least value of the ninth", house.checksum(), endless(house).longValue());
        house.setValue(0, 8, 1000);
        Due.is("the greatest value of the ninth", house.checksum(), endless(house).longValue());
        house.put(0, 8, 0);
        Due.is("one pair", house.checksum(), endless(house).longValue());
        house.drop(0, 8);
        Due.is("one thing less", house.checksum(), endless(house).longValue());
    }

    private static void promise56NothingChanges() {
        long due = Edge.world().checksum();
        Edge.leaves("checksum", String.valueOf(due), Edge::world, Belowhouse::checksum);
        Belowhouse house = Edge.world();
        for (int k = 0; k < 3; k++) {
            Due.is("checksum again", house.checksum(), due);
        }
    }

    private WholeEdgeTest() {
    }
}
