/** What the tests share: each wrong answer is printed and counted. */
final class Due {
    static final Class<IndexOutOfBoundsException> NO_INDEX = IndexOutOfBoundsException.class;
    static final Class<IllegalArgumentException> NO_ARGUMENT = IllegalArgumentException.class;
    static final Class<IllegalStateException> NO_STATE = IllegalStateException.class;

    private static int asked = 0;
    private static int wrong = 0;

    /** A call of the class under test. */
    interface Call {
        Object make();
    }

    static void is(String what, Object got, Object want) {
        asked++;
        if (!got.equals(want)) {
            wrong++;
            System.out.println(what + " answered " + got + ", due is " + want);
        }
    }

    static void isTrue(String what, boolean got) {
        is(what, got, true);
    }

    static void isFalse(String what, boolean got) {
        is(what, got, false);
    }

    /** The call throws just this exception, no class below it, and changes nothing. */
    static void isThrown(String what, Class<? extends RuntimeException> want, Belowhouse house, Call call) {
        String ahead = state(house);
        is(what, outcome(call), "throws " + want.getName());
        is("the state behind " + what, state(house), ahead);
    }

    /** The call tells REFUSED, and changes nothing. */
    static void isRefused(String what, Belowhouse house, Call call) {
        String ahead = state(house);
        is(what, outcome(call), "-9");
        is("the state behind " + what, state(house), ahead);
    }

    static String outcome(Call call) {
        try {
            return String.valueOf(call.make());
        } catch (RuntimeException thrown) {
            return "throws " + thrown.getClass().getName();
        }
    }

    /** All that can be seen of the things, pairs and values of all orders. */
    static String state(Belowhouse house) {
        StringBuilder text = new StringBuilder();
        for (int order = 0; order < 4; order++) {
            text.append(order(house, order)).append(order == 3 ? "" : " / ");
        }
        return text.toString();
    }

    /** One order: of each thing the set of all below it, and its value. */
    static String order(Belowhouse house, int order) {
        StringBuilder text = new StringBuilder();
        int many = house.things(order);
        for (int thing = 0; thing < many; thing++) {
            text.append(thing == 0 ? "" : " ").append(house.lower(order, thing)).append(':');
            text.append(house.value(order, thing));
        }
        return text.toString();
    }

    /** An order like the letter N: 0 is below 2, and 1 below 2 and 3. */
    static Belowhouse letterN() {
        Belowhouse house = new Belowhouse();
        house.lay(0, 4);
        house.put(0, 0, 2);
        house.put(0, 1, 2);
        house.put(0, 1, 3);
        return house;
    }

    /** The divisors of 12 without their order's numbers: 1, 2, 3, 4, 6, 12 as things 0 to 5, with values 1 to 6. */
    static Belowhouse divisors() {
        int[] told = {1, 2, 3, 4, 6, 12};
        Belowhouse house = new Belowhouse();
        for (int k = 0; k < told.length; k++) {
            house.add(0, k + 1);
        }
        for (int low = 0; low < told.length; low++) {
            for (int high = low + 1; high < told.length; high++) {
                if (told[high] % told[low] == 0) {
                    house.put(0, low, high);
                }
            }
        }
        return house;
    }

    static void end(String test) {
        System.out.println(test + ": " + asked + " looked at, " + wrong + " wrong");
        if (wrong != 0) {
            System.exit(1);
        }
    }

    private Due() {
    }
}
