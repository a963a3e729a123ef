import java.lang.reflect.InvocationTargetException;
import java.lang.reflect.Method;
import java.util.ArrayList;
import java.util.Arrays;
import java.util.List;

/**
 * "If several exceptions apply, the one that is documented first is thrown; exceptions go ahead of REFUSED", and "a
 * method that throws an exception changes nothing": each call with each mixture of right and wrong arguments.
 */
public final class WrongArgumentsTest {
    /**
     * Each call, and what its arguments are: O an order, T a thing, M how many, V a value, S a set, P a place of a
     * closed set, R a place of a row, W a way, X a row, N any number, B true or false.
     */
    private static final String[] CALLS = {
        "lay OM", "chain OM", "add OV", "drop OT", "keep OS", "setValue OTV", "put OTT", "loose OTT", "straighten OR",
        "turn O", "copy OO", "beside OOO", "above OOO", "meet OOO", "things O", "pairs O", "nexts O", "sign OTT",
        "isNext OTT", "lower OT", "upper OT", "ends OB", "value OT", "isSame OO", "isChain OS", "isApart OS",
        "level OT", "longest O", "widest O", "fewestChains O", "fewestAparts O", "aparts O", "sets O", "setsOf ON",
        "setAt OP", "placeOf OS", "near OSW", "closed OS", "inner OS", "tops OS", "shared OO", "rows O", "rowAt OR",
        "rowPlace ON", "nextRow OX", "rowsWith OTT", "rowsAt OTN", "meanPlace OT", "share OTT", "sum OT",
        "number OTT", "undone OT", "isSound O", "areSound OO",
    };

    // What the orders of Edge.world() have.
    private static final int[] THINGS = {4, 0, 9, 2};
    private static final int[] SETS = {8, 1, 20, 3};
    private static final int[] ROWS = {5, 1, 42, 1};
    private static final int[] FIRST_ROWS = {1234, 0, 123456789, 12};
    private static final int[] LAST_ROWS = {2413, 0, 147258369, 12};

    private static final String LOOK = Edge.look(Edge.world());

    public static void main(String[] args) throws IllegalAccessException {
        List<String> found = new ArrayList<>();
        for (String call : CALLS) {
            String name = call.substring(0, call.indexOf(' '));
            found.add(name);
            mix(methodOf(name), call.substring(call.indexOf(' ') + 1), new ArrayList<>(), 0);
        }
        worldIsAsTold();
        Due.is("how many calls there are beside checksum()", found.size() + 1,
                Belowhouse.class.getDeclaredMethods().length - privateOnes());
        Due.end("WrongArgumentsTest");
    }

    private static Method methodOf(String name) {
        for (Method method : Belowhouse.class.getMethods()) {
            if (method.getName().equals(name)) {
                return method;
            }
        }
        throw new AssertionError(name);
    }

    private static int privateOnes() {
        int found = 0;
        for (Method method : Belowhouse.class.getDeclaredMethods()) {
            found += java.lang.reflect.Modifier.isPublic(method.getModifiers()) ? 0 : 1;
        }
        return found;
    }

    private static void worldIsAsTold() {
        Belowhouse house = Edge.world();
        for (int order = 0; order < 4; order++) {
            Due.is("things of " + order, house.things(order), THINGS[order]);
            Due.is("sets of " + order, house.sets(order), SETS[order]);
            Due.is("rows of " + order, house.rows(order), ROWS[order]);
            Due.is("the first row of " + order, house.rowAt(order, 0), FIRST_ROWS[order]);
            Due.is("the last row of " + order, house.rowAt(order, ROWS[order] - 1), LAST_ROWS[order]);
        }
    }

    /** Puts each right and each wrong argument behind those that are chosen, and makes the call with all of them. */
    private static void mix(Method method, String kinds, List<Object> chosen, int wrongs) throws IllegalAccessException {
        int k = chosen.size();
        if (k == kinds.length()) {
            look(method, kinds, chosen, wrongs);
            return;
        }
        int order = orderOf(chosen);
        for (Object right : rightOnes(kinds.charAt(k), order)) {
            mix(method, kinds, with(chosen, right), wrongs);
        }
        for (Object wrong : wrongOnes(kinds.charAt(k), order)) {
            mix(method, kinds, with(chosen, wrong), wrongs | 1 << k);
        }
    }

    private static List<Object> with(List<Object> chosen, Object more) {
        List<Object> all = new ArrayList<>(chosen);
        all.add(more);
        return all;
    }

    /** The order that the other arguments belong to; if there is no such one, they are right for order 0. */
    private static int orderOf(List<Object> chosen) {
        int order = chosen.isEmpty() ? 0 : (Integer) chosen.get(0);
        return order >= 0 && order <= 3 ? order : 0;
    }

    private static void look(Method method, String kinds, List<Object> chosen, int wrongs)
            throws IllegalAccessException {
        if (wrongs == 0) {
            return;
        }
        String due = IllegalArgumentException.class.getName();
        for (int k = 0; k < kinds.length(); k++) {
            if ((wrongs & 1 << k) != 0 && "OTPR".indexOf(kinds.charAt(k)) >= 0) {
                due = IndexOutOfBoundsException.class.getName();
            }
        }
        Belowhouse house = Edge.world();
        String what = method.getName() + chosen;
        Due.is(what, outcome(method, house, chosen), "throws " + due);
        Due.is("all behind " + what, Edge.look(house), LOOK);
    }

    private static String outcome(Method method, Belowhouse house, List<Object> chosen) throws IllegalAccessException {
        try {
            return String.valueOf(method.invoke(house, chosen.toArray()));
        } catch (InvocationTargetException thrown) {
            return "throws " + thrown.getCause().getClass().getName();
        }
    }

    private static List<Object> rightOnes(char kind, int order) {
        int many = THINGS[order];
        switch (kind) {
            case 'O':
                return List.of(0, 1, 2, 3);
            case 'T':
                return many == 0 ? List.of() : List.of(0, many - 1);
            case 'M':
                return List.of(0, 9);
            case 'V':
                return List.of(-1000, 1000);
            case 'S':
                return many == 0 ? List.of(0) : List.of(0, 2, (1 << many) - 1);
            case 'P':
                return List.of(0, SETS[order] - 1);
            case 'R':
                return List.of(0, ROWS[order] - 1);
            case 'W':
                return List.of('l', 'f', 'c', 'h');
            case 'X':
                return List.of(FIRST_ROWS[order], LAST_ROWS[order]);
            case 'N':
                return List.of(0, -1, Edge.LEAST, Edge.MOST);
            default:
                return List.of(true, false);
        }
    }

    private static List<Object> wrongOnes(char kind, int order) {
        int many = THINGS[order];
        switch (kind) {
            case 'O':
                return around(-1, 4);
            case 'T':
                // A shift by 32 is one by 0, so 32 and more look like things where numbers are shifted.
                return with(with(around(-1, many), 32), 31 + many);
            case 'M':
                return around(-1, 10);
            case 'V':
                return around(-1001, 1001);
            case 'S':
                return with(around(-1, 1 << many), (1 << many) + (1 << many) / 2);
            case 'P':
                return around(-1, SETS[order]);
            case 'R':
                return around(-1, ROWS[order]);
            case 'W':
                return Arrays.asList('L', 'x', ' ', (char) 0, (char) 65535, (char) ('l' + 256));
            case 'X':
                return with(around(FIRST_ROWS[order] - 1, LAST_ROWS[order] + 1), many == 0 ? 10 : 0);
            default:
                return List.of();
        }
    }

    /** Just too small, just too large, and as far off as a number can be. */
    private static List<Object> around(int below, int above) {
        return Arrays.asList(below, above, Edge.LEAST, Edge.MOST);
    }

    private WrongArgumentsTest() {
    }
}
