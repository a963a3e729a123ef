/** What the edge tests share: orders that stand at the edges, and a look at all that a call must leave as it was. */
final class Edge {
    static final int LEAST = Integer.MIN_VALUE;
    static final int MOST = Integer.MAX_VALUE;
    /** How many orders fill() knows. */
    static final int SAMPLES = 14;
    /** Those of them that have 9 things. */
    static final int[] FULL = {8, 9, 10, 11, 12, 13};

    /** Makes a new object, which is in the same state each time. */
    interface Maker {
        Belowhouse make();
    }

    /** A call on an object. */
    interface Call {
        Object on(Belowhouse house);
    }

    /** Order 0 is the letter N, 1 has no things, 2 is a full one of 3 times 3, and 3 is a chain of two. */
    static Belowhouse world() {
        Belowhouse house = new Belowhouse();
        fill(house, 0, 5);
        fill(house, 2, 8);
        fill(house, 3, 3);
        for (int thing = 0; thing < 9; thing++) {
            house.setValue(2, thing, 250 * thing - 1000);
        }
        house.setValue(0, 1, -6);
        house.setValue(0, 2, 7);
        house.setValue(3, 0, 1000);
        house.setValue(3, 1, -1000);
        return house;
    }

    /** An object with one order, which is the sample of a number. */
    static Belowhouse sample(int which) {
        Belowhouse house = new Belowhouse();
        fill(house, 0, which);
        return house;
    }

    static void fill(Belowhouse house, int order, int which) {
        switch (which) {
            case 0, 1, 2 -> house.lay(order, which);
            case 3 -> house.chain(order, 2);
            case 4 -> puts(house, order, 2, 1, 0);
            case 5 -> puts(house, order, 4, 0, 2, 1, 2, 1, 3);
            case 6 -> puts(house, order, 6, 0, 1, 0, 2, 1, 3, 1, 4, 2, 4, 3, 5, 4, 5);
            case 7 -> puts(house, order, 6, 0, 4, 0, 5, 1, 3, 1, 5, 2, 3, 2, 4);
            case 8 -> puts(house, order, 9, 0, 1, 1, 2, 3, 4, 4, 5, 6, 7, 7, 8, 0, 3, 1, 4, 2, 5, 3, 6, 4, 7, 5, 8);
            case 9 -> house.lay(order, 9);
            case 10 -> house.chain(order, 9);
            case 11 -> puts(house, order, 9, 8, 7, 7, 6, 6, 5, 5, 4, 4, 3, 3, 2, 2, 1, 1, 0);
            case 12 -> puts(house, order, 9, 0, 1, 0, 2, 0, 3, 0, 4, 0, 5, 0, 6, 0, 7, 1, 8, 2, 8, 3, 8, 4, 8, 5, 8,
                    6, 8, 7, 8);
            default -> puts(house, order, 9, 0, 3, 0, 4, 0, 5, 1, 3, 1, 4, 1, 5, 2, 3, 2, 4, 2, 5, 3, 6, 3, 7, 3, 8,
                    4, 6, 4, 7, 4, 8, 5, 6, 5, 7, 5, 8);
        }
    }

    private static void puts(Belowhouse house, int order, int many, int... pairs) {
        house.lay(order, many);
        for (int k = 0; k < pairs.length; k += 2) {
            house.put(order, pairs[k], pairs[k + 1]);
        }
    }

    /** The call throws just this exception, and leaves all as it was. */
    static void isThrown(String what, Class<? extends RuntimeException> want, Maker maker, Call call) {
        leaves(what, "throws " + want.getName(), maker, call);
    }

    /** The call tells REFUSED, and leaves all as it was. */
    static void isRefused(String what, Maker maker, Call call) {
        leaves(what, "-9", maker, call);
    }

    /** The call answers this, and leaves all as it was: as in an object that was not asked. */
    static void leaves(String what, String want, Maker maker, Call call) {
        Belowhouse house = maker.make();
        Due.is(what, Due.outcome(() -> call.on(house)), want);
        Due.is("all behind " + what, look(house), look(maker.make()));
    }

    /** All orders, as pairs, sets and rows have them; this takes less than 320 calls. */
    static String look(Belowhouse house) {
        StringBuilder text = new StringBuilder();
        for (int order = 0; order < 4; order++) {
            text.append('[').append(Due.order(house, order)).append("] ");
            lookUp(house, order, text);
        }
        return text.append(house.checksum()).toString();
    }

    private static void lookUp(Belowhouse house, int order, StringBuilder text) {
        int many = house.things(order);
        for (int thing = 0; thing < many; thing++) {
            text.append(house.upper(order, thing)).append(' ');
        }
        int sets = house.sets(order);
        for (int place = 0; place < sets && place < 6; place++) {
            text.append(house.setAt(order, place)).append(' ');
        }
        int rows = house.rows(order);
        text.append(house.rowAt(order, 0)).append(' ').append(house.rowAt(order, rows - 1)).append(' ');
        text.append(house.pairs(order)).append(' ').append(house.nexts(order)).append(' ');
        text.append(house.ends(order, true)).append(' ').append(house.ends(order, false)).append(' ');
        text.append(house.aparts(order)).append(' ').append(house.longest(order)).append(' ');
        text.append(house.widest(order)).append(' ').append(sets).append(' ').append(rows).append(" / ");
    }

    private Edge() {
    }
}
