import java.util.ArrayList;
import java.util.List;

/**
 * Each order of up to four things, some of five, and full ones of nine: what each call answers on each of its arguments
 * is what the model answers, and each change leaves what the model has then.
 */
public final class EveryOrderTest {
    private final List<int[]> puts = new ArrayList<>();
    private final int many;
    private Belowhouse house;
    private Model model;
    /** How many calls the object was asked; it is made anew ahead of the 512th. */
    private int calls;

    private interface Call {
        Object on(Belowhouse house);
    }

    private interface ModelCall {
        Object on(Model model);
    }

    private EveryOrderTest(int many) {
        this.many = many;
    }

    public static void main(String[] args) {
        for (int many = 0; many <= 4; many++) {
            for (EveryOrderTest test : ordersOf(many, 1)) {
                test.askAll();
                test.changeAll();
            }
        }
        for (EveryOrderTest test : ordersOf(5, 12)) {
            test.askAll();
        }
        for (int which : Edge.FULL) {
            if (which != 9) {
                full(which).askAll();
            }
        }
        joinAll();
        Due.end("EveryOrderTest");
    }

    /** All orders of so many things, or each one behind some others. */
    private static List<EveryOrderTest> ordersOf(int many, int step) {
        int both = many * (many - 1) / 2;
        int ways = 1;
        for (int k = 0; k < both; k++) {
            ways *= 3;
        }
        List<EveryOrderTest> found = new ArrayList<>();
        int orders = 0;
        for (int way = 0; way < ways; way++) {
            EveryOrderTest test = ofWay(many, way);
            if (test != null && orders++ % step == 0) {
                found.add(test);
            }
        }
        Due.is("orders of " + many, orders, new int[] {1, 1, 3, 19, 219, 4231}[many]);
        return found;
    }

    /** A way tells of each two things whether the one is below, or above, or neither; not each one is an order. */
    private static EveryOrderTest ofWay(int many, int way) {
        EveryOrderTest test = new EveryOrderTest(many);
        boolean[][] under = new boolean[many][many];
        int left = way;
        for (int one = 0; one < many; one++) {
            for (int other = one + 1; other < many; other++) {
                int low = left % 3 == 1 ? one : other;
                int high = one + other - low;
                under[low][high] = left % 3 != 0;
                if (left % 3 != 0) {
                    test.puts.add(new int[] {low, high});
                }
                left /= 3;
            }
        }
        return goesOn(under) ? test : null;
    }

    private static boolean goesOn(boolean[][] under) {
        for (int low = 0; low < under.length; low++) {
            for (int mid = 0; mid < under.length; mid++) {
                for (int high = 0; high < under.length; high++) {
                    if (under[low][mid] && under[mid][high] && !under[low][high]) {
                        return false;
                    }
                }
            }
        }
        return true;
    }

    private static EveryOrderTest full(int which) {
        EveryOrderTest test = new EveryOrderTest(9);
        Belowhouse sample = Edge.sample(which);
        for (int low = 0; low < 9; low++) {
            for (int high = 0; high < 9; high++) {
                if (sample.isNext(0, low, high)) {
                    test.puts.add(new int[] {low, high});
                }
            }
        }
        return test;
    }

    private void make() {
        house = new Belowhouse();
        model = new Model();
        calls = 0;
        makeAs(0);
    }

    private void makeAs(int order) {
        for (int thing = 0; thing < many; thing++) {
            int value = thing * 2000 / 9 - 1000;
            same("add", it -> it.add(order, value), it -> it.add(order, value));
        }
        for (int[] pair : puts) {
            same("put", it -> it.put(order, pair[0], pair[1]), it -> it.put(order, pair[0], pair[1]));
        }
    }

    private String told() {
        StringBuilder text = new StringBuilder("of " + many + " with");
        for (int[] pair : puts) {
            text.append(' ').append(pair[0]).append('<').append(pair[1]);
        }
        return text.toString();
    }

    private void same(String what, Call ours, ModelCall due) {
        calls++;
        Due.is(what + " " + told(), Due.outcome(() -> ours.on(house)), Due.outcome(() -> due.on(model)));
    }

    private void leaveRoom(int more) {
        if (calls + more > 512) {
            make();
        }
    }

    private void askAll() {
        make();
        askOrder();
        for (int thing = -1; thing <= many; thing++) {
            askThing(thing);
            for (int other = -1; other <= many; other++) {
                askTwo(thing, other);
            }
        }
        for (int set = -1; set <= 1 << many; set++) {
            askSet(set);
        }
        for (int place = -1; place <= model.sets(0); place++) {
            askPlace(place);
        }
        int step = Math.max(1, model.rows(0) / 100);
        for (int place = -1; place <= model.rows(0); place += step) {
            askRow(place);
        }
    }

    private void askOrder() {
        leaveRoom(40);
        same("things", it -> it.things(0), it -> it.things(0));
        same("pairs", it -> it.pairs(0), it -> it.pairs(0));
        same("nexts", it -> it.nexts(0), it -> it.nexts(0));
        same("greatest", it -> it.ends(0, true), it -> it.ends(0, true));
        same("least", it -> it.ends(0, false), it -> it.ends(0, false));
        same("longest", it -> it.longest(0), it -> it.longest(0));
        same("widest", it -> it.widest(0), it -> it.widest(0));
        same("fewestChains", it -> it.fewestChains(0), it -> it.fewestChains(0));
        same("fewestAparts", it -> it.fewestAparts(0), it -> it.fewestAparts(0));
        same("aparts", it -> it.aparts(0), it -> it.aparts(0));
        same("sets", it -> it.sets(0), it -> it.sets(0));
        same("rows", it -> it.rows(0), it -> it.rows(0));
        same("isSound", it -> it.isSound(0), it -> it.isSound(0));
        same("areSound", it -> it.areSound(0, 0), it -> it.areSound(0, 0));
        same("checksum", Belowhouse::checksum, Model::checksum);
        for (int k = -1; k <= 10; k++) {
            int size = k;
            same("setsOf " + k, it -> it.setsOf(0, size), it -> it.setsOf(0, size));
        }
    }

    private void askThing(int x) {
        leaveRoom(20);
        same("lower " + x, it -> it.lower(0, x), it -> it.lower(0, x));
        same("upper " + x, it -> it.upper(0, x), it -> it.upper(0, x));
        same("value " + x, it -> it.value(0, x), it -> it.value(0, x));
        same("level " + x, it -> it.level(0, x), it -> it.level(0, x));
        same("meanPlace " + x, it -> it.meanPlace(0, x), it -> it.meanPlace(0, x));
        same("sum " + x, it -> it.sum(0, x), it -> it.sum(0, x));
        same("undone " + x, it -> it.undone(0, x), it -> it.undone(0, x));
    }

    private void askTwo(int x, int y) {
        leaveRoom(10);
        String what = " " + x + " " + y;
        same("sign" + what, it -> it.sign(0, x, y), it -> it.sign(0, x, y));
        same("isNext" + what, it -> it.isNext(0, x, y), it -> it.isNext(0, x, y));
        same("rowsWith" + what, it -> it.rowsWith(0, x, y), it -> it.rowsWith(0, x, y));
        same("rowsAt" + what, it -> it.rowsAt(0, x, y), it -> it.rowsAt(0, x, y));
        same("share" + what, it -> it.share(0, x, y), it -> it.share(0, x, y));
        same("number" + what, it -> it.number(0, x, y), it -> it.number(0, x, y));
    }

    private void askSet(int set) {
        leaveRoom(20);
        same("isChain " + set, it -> it.isChain(0, set), it -> it.isChain(0, set));
        same("isApart " + set, it -> it.isApart(0, set), it -> it.isApart(0, set));
        same("placeOf " + set, it -> it.placeOf(0, set), it -> it.placeOf(0, set));
        same("near l " + set, it -> it.near(0, set, 'l'), it -> it.near(0, set, 'l'));
        same("near f " + set, it -> it.near(0, set, 'f'), it -> it.near(0, set, 'f'));
        same("near c " + set, it -> it.near(0, set, 'c'), it -> it.near(0, set, 'c'));
        same("near h " + set, it -> it.near(0, set, 'h'), it -> it.near(0, set, 'h'));
        same("closed " + set, it -> it.closed(0, set), it -> it.closed(0, set));
        same("inner " + set, it -> it.inner(0, set), it -> it.inner(0, set));
        same("tops " + set, it -> it.tops(0, set), it -> it.tops(0, set));
    }

    private void askPlace(int place) {
        leaveRoom(1);
        same("setAt " + place, it -> it.setAt(0, place), it -> it.setAt(0, place));
    }

    private void askRow(int place) {
        leaveRoom(8);
        same("rowAt " + place, it -> it.rowAt(0, place), it -> it.rowAt(0, place));
        if (place >= 0 && place < model.rows(0)) {
            int row = model.rowAt(0, place);
            same("rowPlace " + row, it -> it.rowPlace(0, row), it -> it.rowPlace(0, row));
            same("nextRow " + row, it -> it.nextRow(0, row), it -> it.nextRow(0, row));
            same("rowPlace behind " + row, it -> it.rowPlace(0, row + 1), it -> it.rowPlace(0, row + 1));
            same("nextRow ahead of " + row, it -> it.nextRow(0, row - 1), it -> it.nextRow(0, row - 1));
        }
    }

    /** A change on an object of its own, and what is there then. */
    private void change(String what, Call ours, ModelCall due) {
        make();
        same(what, ours, due);
        Due.is("behind " + what + " " + told(), Due.order(house, 0), orderOf(model, 0));
        same("sets behind " + what, it -> it.sets(0), it -> it.sets(0));
        same("rows behind " + what, it -> it.rows(0), it -> it.rows(0));
    }

    private static String orderOf(Model model, int order) {
        StringBuilder text = new StringBuilder();
        for (int thing = 0; thing < model.things(order); thing++) {
            text.append(thing == 0 ? "" : " ").append(model.lower(order, thing)).append(':');
            text.append(model.value(order, thing));
        }
        return text.toString();
    }

    private void changeAll() {
        make();
        int rows = model.rows(0);
        change("turn", it -> it.turn(0), it -> it.turn(0));
        change("add", it -> it.add(0, 5), it -> it.add(0, 5));
        for (int k = -1; k <= many; k++) {
            int low = k;
            change("drop " + low, it -> it.drop(0, low), it -> it.drop(0, low));
            change("setValue " + low, it -> it.setValue(0, low, 9), it -> it.setValue(0, low, 9));
            for (int other = -1; other <= many; other++) {
                int high = other;
                String what = " " + low + " " + high;
                change("put" + what, it -> it.put(0, low, high), it -> it.put(0, low, high));
                change("loose" + what, it -> it.loose(0, low, high), it -> it.loose(0, low, high));
            }
        }
        for (int k = -1; k <= 1 << many; k++) {
            int set = k;
            change("keep " + set, it -> it.keep(0, set), it -> it.keep(0, set));
        }
        for (int k = -1; k <= rows; k++) {
            int place = k;
            change("straighten " + place, it -> it.straighten(0, place), it -> it.straighten(0, place));
        }
    }

    /** Each two orders of up to three things, joined and compared. */
    private static void joinAll() {
        List<EveryOrderTest> tests = new ArrayList<>();
        for (int many = 0; many <= 3; many++) {
            tests.addAll(ordersOf(many, 1));
        }
        for (EveryOrderTest one : tests) {
            for (EveryOrderTest other : tests) {
                one.joinWith(other);
            }
        }
    }

    private void joinWith(EveryOrderTest other) {
        make();
        other.house = house;
        other.model = model;
        other.makeAs(1);
        same("setValue", it -> it.setValue(1, 0, 77), it -> it.setValue(1, 0, 77));
        String what = " and that " + other.told() + " and this";
        same("isSame" + what, it -> it.isSame(0, 1), it -> it.isSame(0, 1));
        same("shared" + what, it -> it.shared(0, 1), it -> it.shared(0, 1));
        same("areSound" + what, it -> it.areSound(0, 1), it -> it.areSound(0, 1));
        same("beside" + what, it -> it.beside(0, 1, 2), it -> it.beside(0, 1, 2));
        same("above" + what, it -> it.above(0, 1, 3), it -> it.above(0, 1, 3));
        sameOrders(what);
        same("meet" + what, it -> it.meet(0, 1, 2), it -> it.meet(0, 1, 2));
        same("beside, into the other" + what, it -> it.beside(0, 1, 1), it -> it.beside(0, 1, 1));
        same("above, into the one" + what, it -> it.above(0, 3, 0), it -> it.above(0, 3, 0));
        sameOrders(what);
        same("checksum" + what, Belowhouse::checksum, Model::checksum);
    }

    private void sameOrders(String what) {
        for (int order = 0; order < 4; order++) {
            Due.is("order " + order + what, Due.order(house, order), orderOf(model, order));
        }
    }
}
