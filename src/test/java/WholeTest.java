/** Promises 54 to 56: the whole. */
public final class WholeTest {
    public static void main(String[] args) {
        promise54IsSound();
        promise55AreSound();
        promise56Checksum();
        Due.end("WholeTest");
    }

    private static void promise54IsSound() {
        Belowhouse house = Due.divisors();
        house.lay(2, 9);
        house.chain(3, 9);
        String ahead = Due.state(house);
        for (int order = 0; order < 4; order++) {
            Due.isTrue("isSound(" + order + ")", house.isSound(order));
        }
        Due.is("nothing changes", Due.state(house), ahead);
        Due.isThrown("isSound(4)", Due.NO_INDEX, house, () -> house.isSound(4));
        Due.isThrown("isSound(-1)", Due.NO_INDEX, house, () -> house.isSound(-1));
        everyOrderOfFourIsSound();
    }

    /** All orders of four things, made by all ways to put six pairs in. */
    private static void everyOrderOfFourIsSound() {
        int[] lows = {0, 0, 0, 1, 1, 2};
        int[] highs = {1, 2, 3, 2, 3, 3};
        for (int ways = 0; ways < 729; ways++) {
            Belowhouse house = new Belowhouse();
            house.lay(0, 4);
            int left = ways;
            for (int k = 0; k < 6; k++) {
                if (left % 3 == 1) {
                    house.put(0, lows[k], highs[k]);
                } else if (left % 3 == 2) {
                    house.put(0, highs[k], lows[k]);
                }
                left /= 3;
            }
            house.setValue(0, ways % 4, ways - 300);
            Due.isTrue("order " + ways + " is sound", house.isSound(0));
            Due.isTrue("order " + ways + " is sound with itself", house.areSound(0, 0));
        }
    }

    private static void promise55AreSound() {
        Belowhouse house = Due.letterN();
        house.chain(1, 5);
        house.lay(2, 5);
        String ahead = Due.state(house);
        for (int one = 0; one < 4; one++) {
            for (int other = 0; other < 4; other++) {
                Due.isTrue("areSound(" + one + ", " + other + ")", house.areSound(one, other));
            }
        }
        Due.is("nothing changes", Due.state(house), ahead);
        house.lay(3, 9);
        Due.isTrue("18 things", house.areSound(3, 3));
        Due.isThrown("areSound(4, 0)", Due.NO_INDEX, house, () -> house.areSound(4, 0));
        Due.isThrown("areSound(3, -1)", Due.NO_INDEX, house, () -> house.areSound(3, -1));
        Due.isThrown("areSound(3, 4)", Due.NO_INDEX, house, () -> house.areSound(3, 4));
    }

    private static void promise56Checksum() {
        Belowhouse house = Due.letterN();
        house.setValue(0, 1, -7);
        house.chain(2, 2);
        long due = 17;
        due = with(due, 4, 0, 0, 0, -7, 3, 0, 2, 0, 8, 5, 2, 2);
        due = with(due, 0, 1, 1, 0, 0);
        due = with(due, 2, 0, 0, 1, 0, 3, 1, 1, 2);
        due = with(due, 0, 1, 1, 0, 0);
        Due.is("checksum", house.checksum(), due);
        Due.is("the same again", house.checksum(), due);
        house.lay(3, 9);
        Due.isFalse("another state, another sum", house.checksum() == due);
    }

    private static long with(long start, int... added) {
        long total = start;
        for (int v : added) {
            total = 31 * total + v;
        }
        return total;
    }

    private WholeTest() {
    }
}
