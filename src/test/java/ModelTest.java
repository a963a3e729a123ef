/** Long runs of calls, each with the answer of the model; the same runs each time. */
public final class ModelTest {
    /** What an object answers to later calls is free. */
    private static final int CALLS = 512;
    private static final int RUNS = 500;
    /** Looks at five orders take no more calls than this. */
    private static final int LOOKS = 5 * (1 + 2 * 9);
    private static final String WAYS = "lfchx";

    /** A sequence of numbers that looks mixed, and is the same each time. */
    private long mixed;
    private final Belowhouse house = new Belowhouse();
    private final Model model = new Model();
    private final int run;
    /** Runs with few things try all kinds of calls quickly; some go up to 9. */
    private final int most;
    /** How many calls the object may still be asked. */
    private int left = CALLS;

    private ModelTest(int run) {
        this.run = run;
        this.mixed = run * 7919L + 17;
        this.most = run % 20 == 0 ? 9 : 2 + run % 6;
    }

    public static void main(String[] args) {
        for (int run = 0; run < RUNS; run++) {
            new ModelTest(run).goOn();
        }
        Due.end("ModelTest");
    }

    /** Half of the runs look at the orders now and then; the others ask up to the last call that counts. */
    private void goOn() {
        boolean areLookedAt = run % 2 == 0;
        while (left > (areLookedAt ? LOOKS : 0)) {
            callSome();
            if (areLookedAt && below(6) == 0) {
                lookAt(below(4));
            }
        }
        if (areLookedAt) {
            for (int order = 0; order < 4; order++) {
                lookAt(order);
            }
        }
    }

    private void lookAt(int order) {
        same("order " + order, () -> Due.order(house, order), () -> orderOfModel(order));
        left -= 2 * model.things(order);
    }

    private int below(int limit) {
        mixed = mixed * 6364136223846793005L + 1442695040888963407L;
        return (int) ((mixed >>> 33) % limit);
    }

    private int someOrder() {
        return below(40) == 0 ? below(2) * 5 - 1 : below(4);
    }

    private int someThing(int order) {
        int many = order >= 0 && order < 4 ? model.things(order) : 0;
        return below(40) == 0 || many == 0 ? below(12) - 1 : below(many);
    }

    private int someSet(int order) {
        int many = order >= 0 && order < 4 ? model.things(order) : 0;
        return below(40) == 0 ? below(1026) - 2 : below(1 << many);
    }

    private int someValue() {
        return below(20) == 0 ? below(5) * 1001 - 2002 : below(2001) - 1000;
    }

    private int someMany() {
        return below(30) == 0 ? below(2) * 11 - 1 : below(most + 1);
    }

    private int somePlace(int order, boolean ofRows) {
        if (order < 0 || order > 3 || below(30) == 0) {
            return below(5) - 2;
        }
        int many = ofRows ? model.rows(order) : model.sets(order);
        return below(15) == 0 ? many : below(many);
    }

    private int someRow(int order) {
        if (order < 0 || order > 3 || below(10) == 0) {
            return below(1 << 30) * (below(2) * 2 - 1) >> below(30);
        }
        int row = model.rowAt(order, below(model.rows(order)));
        return below(3) == 0 ? row + 9 * (below(21) - 10) : row;
    }

    /** Too many rows would take the model long, so greater orders get pairs first. */
    private boolean isTooWide(int order) {
        return order >= 0 && order < 4 && model.things(order) > 7 && model.pairs(order) < 8;
    }

    private void same(String what, Due.Call ours, Due.Call due) {
        left--;
        Due.is("run " + run + ": " + what, Due.outcome(ours), Due.outcome(due));
    }

    private void callSome() {
        int kind = below(10);
        if (kind < 4) {
            changeSome();
        } else if (kind < 6) {
            askPairs();
        } else if (kind < 8) {
            askSets();
        } else {
            askRows();
        }
    }

    private String orderOfModel(int order) {
        StringBuilder text = new StringBuilder();
        for (int thing = 0; thing < model.things(order); thing++) {
            text.append(thing == 0 ? "" : " ").append(model.lower(order, thing)).append(':');
            text.append(model.value(order, thing));
        }
        return text.toString();
    }

    private void changeSome() {
        int a = someOrder();
        int b = someOrder();
        int c = someOrder();
        int one = someThing(a);
        int other = someThing(a);
        int set = someSet(a);
        int value = someValue();
        int many = someMany();
        String args = " " + a + " " + b + " " + c + " " + one + " " + other + " " + set + " " + value + " " + many;
        switch (below(22)) {
            case 0 -> same("lay" + args, () -> house.lay(a, many), () -> model.lay(a, many));
            case 1 -> same("chain" + args, () -> house.chain(a, many), () -> model.chain(a, many));
            case 2, 3 -> same("add" + args, () -> house.add(a, value), () -> model.add(a, value));
            case 4 -> same("drop" + args, () -> house.drop(a, one), () -> model.drop(a, one));
            case 5 -> same("keep" + args, () -> house.keep(a, set), () -> model.keep(a, set));
            case 6 -> same("setValue" + args, () -> house.setValue(a, one, value),
                    () -> model.setValue(a, one, value));
            case 7, 8, 9, 10, 11, 12 -> same("put" + args, () -> house.put(a, one, other),
                    () -> model.put(a, one, other));
            case 13, 14, 15 -> same("loose" + args, () -> house.loose(a, one, other),
                    () -> model.loose(a, one, other));
            case 16 -> straightenSome(a);
            case 17 -> same("turn" + args, () -> house.turn(a), () -> model.turn(a));
            case 18 -> same("copy" + args, () -> house.copy(a, b), () -> model.copy(a, b));
            case 19 -> same("beside" + args, () -> house.beside(a, b, c), () -> model.beside(a, b, c));
            case 20 -> same("above" + args, () -> house.above(a, b, c), () -> model.above(a, b, c));
            default -> same("meet" + args, () -> house.meet(a, b, c), () -> model.meet(a, b, c));
        }
    }

    private void straightenSome(int order) {
        if (!isTooWide(order) && below(3) == 0) {
            int place = somePlace(order, true);
            same("straighten " + order + " " + place, () -> house.straighten(order, place),
                    () -> model.straighten(order, place));
        }
    }

    private void askPairs() {
        int a = someOrder();
        int b = someOrder();
        int one = someThing(a);
        int other = someThing(a);
        boolean areGreatest = below(2) == 0;
        String args = " " + a + " " + b + " " + one + " " + other + " " + areGreatest;
        switch (below(13)) {
            case 0 -> same("things" + args, () -> house.things(a), () -> model.things(a));
            case 1 -> same("pairs" + args, () -> house.pairs(a), () -> model.pairs(a));
            case 2 -> same("nexts" + args, () -> house.nexts(a), () -> model.nexts(a));
            case 3 -> same("sign" + args, () -> house.sign(a, one, other), () -> model.sign(a, one, other));
            case 4 -> same("isNext" + args, () -> house.isNext(a, one, other), () -> model.isNext(a, one, other));
            case 5 -> same("lower" + args, () -> house.lower(a, one), () -> model.lower(a, one));
            case 6 -> same("upper" + args, () -> house.upper(a, one), () -> model.upper(a, one));
            case 7 -> same("ends" + args, () -> house.ends(a, areGreatest), () -> model.ends(a, areGreatest));
            case 8 -> same("value" + args, () -> house.value(a, one), () -> model.value(a, one));
            case 9 -> same("isSame" + args, () -> house.isSame(a, b), () -> model.isSame(a, b));
            case 10 -> same("sum" + args, () -> house.sum(a, one), () -> model.sum(a, one));
            case 11 -> same("number" + args, () -> house.number(a, one, other), () -> model.number(a, one, other));
            default -> same("undone" + args, () -> house.undone(a, one), () -> model.undone(a, one));
        }
    }

    private void askSets() {
        int a = someOrder();
        int b = someOrder();
        int one = someThing(a);
        int set = someSet(a);
        int many = below(12) - 1;
        int place = somePlace(a, false);
        char way = WAYS.charAt(below(5));
        String args = " " + a + " " + b + " " + one + " " + set + " " + many + " " + place + " " + way;
        switch (below(17)) {
            case 0 -> same("isChain" + args, () -> house.isChain(a, set), () -> model.isChain(a, set));
            case 1 -> same("isApart" + args, () -> house.isApart(a, set), () -> model.isApart(a, set));
            case 2 -> same("level" + args, () -> house.level(a, one), () -> model.level(a, one));
            case 3 -> same("longest" + args, () -> house.longest(a), () -> model.longest(a));
            case 4 -> same("widest" + args, () -> house.widest(a), () -> model.widest(a));
            case 5 -> same("fewestChains" + args, () -> house.fewestChains(a), () -> model.fewestChains(a));
            case 6 -> same("fewestAparts" + args, () -> house.fewestAparts(a), () -> model.fewestAparts(a));
            case 7 -> same("aparts" + args, () -> house.aparts(a), () -> model.aparts(a));
            case 8 -> same("sets" + args, () -> house.sets(a), () -> model.sets(a));
            case 9 -> same("setsOf" + args, () -> house.setsOf(a, many), () -> model.setsOf(a, many));
            case 10 -> same("setAt" + args, () -> house.setAt(a, place), () -> model.setAt(a, place));
            case 11 -> same("placeOf" + args, () -> house.placeOf(a, set), () -> model.placeOf(a, set));
            case 12 -> same("near" + args, () -> house.near(a, set, way), () -> model.near(a, set, way));
            case 13 -> same("closed" + args, () -> house.closed(a, set), () -> model.closed(a, set));
            case 14 -> same("inner" + args, () -> house.inner(a, set), () -> model.inner(a, set));
            case 15 -> same("tops" + args, () -> house.tops(a, set), () -> model.tops(a, set));
            default -> same("shared" + args, () -> house.shared(a, b), () -> model.shared(a, b));
        }
    }

    private void askRows() {
        int a = someOrder();
        int b = someOrder();
        if (isTooWide(a)) {
            return;
        }
        int one = someThing(a);
        int other = someThing(a);
        int place = somePlace(a, true);
        int many = below(12) - 1;
        int row = someRow(a);
        String args = " " + a + " " + b + " " + one + " " + other + " " + place + " " + many + " " + row;
        switch (below(11)) {
            case 0 -> same("rows" + args, () -> house.rows(a), () -> model.rows(a));
            case 1 -> same("rowAt" + args, () -> house.rowAt(a, place), () -> model.rowAt(a, place));
            case 2 -> same("rowPlace" + args, () -> house.rowPlace(a, row), () -> model.rowPlace(a, row));
            case 3 -> same("nextRow" + args, () -> house.nextRow(a, row), () -> model.nextRow(a, row));
            case 4 -> same("rowsWith" + args, () -> house.rowsWith(a, one, other),
                    () -> model.rowsWith(a, one, other));
            case 5 -> same("rowsAt" + args, () -> house.rowsAt(a, one, many), () -> model.rowsAt(a, one, many));
            case 6 -> same("meanPlace" + args, () -> house.meanPlace(a, one), () -> model.meanPlace(a, one));
            case 7 -> same("share" + args, () -> house.share(a, one, other), () -> model.share(a, one, other));
            case 8 -> same("isSound" + args, () -> house.isSound(a), () -> model.isSound(a));
            case 9 -> same("areSound" + args, () -> house.areSound(a, b), () -> model.areSound(a, b));
            default -> askChecksum();
        }
    }

    private void askChecksum() {
        for (int order = 0; order < 4; order++) {
            if (isTooWide(order)) {
                return;
            }
        }
        same("checksum", house::checksum, model::checksum);
    }
}
