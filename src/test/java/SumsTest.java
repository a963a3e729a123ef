/** Promises 51 to 53: sums. */
public final class SumsTest {
    public static void main(String[] args) {
        promise51Sum();
        promise52Number();
        promise53Undone();
        Due.end("SumsTest");
    }

    private static void promise51Sum() {
        Belowhouse house = Due.divisors();
        int[] due = {1, 3, 4, 7, 11, 21};
        for (int thing = 0; thing < due.length; thing++) {
            Due.is("sum of " + thing, house.sum(0, thing), due[thing]);
        }
        house.chain(3, 9);
        for (int thing = 0; thing < 9; thing++) {
            house.setValue(3, thing, -1000);
        }
        Due.is("the least sum", house.sum(3, 8), -9000);
        Due.isThrown("sum(0, 6)", Due.NO_INDEX, house, () -> house.sum(0, 6));
        Due.isThrown("sum(0, -1)", Due.NO_INDEX, house, () -> house.sum(0, -1));
        Due.isThrown("sum(1, 0)", Due.NO_INDEX, house, () -> house.sum(1, 0));
        Due.isThrown("sum(4, 0)", Due.NO_INDEX, house, () -> house.sum(4, 0));
    }

    private static void promise52Number() {
        // On divisors it is what a divided by b has: 1 for an even number of unlike primes, -1 for an odd one, else 0.
        Belowhouse house = Due.divisors();
        int[] due = {1, -1, -1, 0, 1, 0};
        for (int high = 0; high < due.length; high++) {
            Due.is("of 0 and " + high, house.number(0, 0, high), due[high]);
        }
        Due.is("of 2 and 12", house.number(0, 1, 5), 1);
        Due.is("of 4 and 12", house.number(0, 3, 5), -1);
        Due.is("of 4 and 6", house.number(0, 3, 4), 0);
        Due.is("of 12 and 4", house.number(0, 5, 3), 0);
        Due.is("of 12 and 12", house.number(0, 5, 5), 1);
        house.lay(1, 1);
        house.lay(2, 7);
        house.above(1, 2, 3);
        house.above(3, 1, 3);
        Due.is("7 between", house.number(3, 0, 8), 6);
        // The numbers of the things need not go up with the order.
        house.turn(3);
        Due.is("7 between, turned", house.number(3, 8, 0), 6);
        Due.isThrown("number(0, 6, 0)", Due.NO_INDEX, house, () -> house.number(0, 6, 0));
        Due.isThrown("number(0, 0, 6)", Due.NO_INDEX, house, () -> house.number(0, 0, 6));
        Due.isThrown("number(0, -1, -1)", Due.NO_INDEX, house, () -> house.number(0, -1, -1));
        Due.isThrown("number(4, 0, 0)", Due.NO_INDEX, house, () -> house.number(4, 0, 0));
    }

    private static void promise53Undone() {
        Belowhouse house = Due.divisors();
        for (int thing = 0; thing < 6; thing++) {
            Due.is("undone of " + thing, house.undone(0, thing), thing + 1);
        }
        house.turn(0);
        for (int thing = 0; thing < 6; thing++) {
            Due.is("undone of " + thing + ", turned", house.undone(0, thing), thing + 1);
        }
        Due.isThrown("undone(0, 6)", Due.NO_INDEX, house, () -> house.undone(0, 6));
        Due.isThrown("undone(0, -1)", Due.NO_INDEX, house, () -> house.undone(0, -1));
        Due.isThrown("undone(1, 0)", Due.NO_INDEX, house, () -> house.undone(1, 0));
        Due.isThrown("undone(-1, 0)", Due.NO_INDEX, house, () -> house.undone(-1, 0));
    }

    private SumsTest() {
    }
}
