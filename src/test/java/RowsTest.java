/** Promises 43 to 50: rows. */
public final class RowsTest {
    /** The rows of the letter N, in their sequence. */
    private static final int[] OF_N = {1234, 1243, 2134, 2143, 2413};

    public static void main(String[] args) {
        promise43Rows();
        promise44RowAt();
        promise45RowPlace();
        promise46NextRow();
        promise47RowsWith();
        promise48RowsAt();
        promise49MeanPlace();
        promise50Share();
        Due.end("RowsTest");
    }

    private static void promise43Rows() {
        Belowhouse house = Due.letterN();
        house.lay(2, 9);
        house.chain(3, 9);
        Due.is("rows(0)", house.rows(0), 5);
        Due.is("rows(1)", house.rows(1), 1);
        Due.is("rows(2)", house.rows(2), 362880);
        Due.is("rows(3)", house.rows(3), 1);
        Due.is("rows(0) behind the greater one", house.rows(0), 5);
        Due.isThrown("rows(4)", Due.NO_INDEX, house, () -> house.rows(4));
        Due.isThrown("rows(-1)", Due.NO_INDEX, house, () -> house.rows(-1));
    }

    private static void promise44RowAt() {
        Belowhouse house = Due.letterN();
        for (int place = 0; place < OF_N.length; place++) {
            Due.is("row at " + place, house.rowAt(0, place), OF_N[place]);
        }
        Due.is("the row of none", house.rowAt(1, 0), 0);
        house.lay(2, 9);
        Due.is("the first", house.rowAt(2, 0), 123456789);
        Due.is("the last", house.rowAt(2, 362879), 987654321);
        Due.is("the second", house.rowAt(2, 1), 123456798);
        Due.isThrown("rowAt(0, 5)", Due.NO_INDEX, house, () -> house.rowAt(0, 5));
        Due.isThrown("rowAt(0, -1)", Due.NO_INDEX, house, () -> house.rowAt(0, -1));
        Due.isThrown("rowAt(1, 1)", Due.NO_INDEX, house, () -> house.rowAt(1, 1));
        Due.isThrown("rowAt(2, 362880)", Due.NO_INDEX, house, () -> house.rowAt(2, 362880));
        Due.isThrown("rowAt(4, 0)", Due.NO_INDEX, house, () -> house.rowAt(4, 0));
    }

    private static void promise45RowPlace() {
        Belowhouse house = Due.letterN();
        for (int place = 0; place < OF_N.length; place++) {
            Due.is("place of " + OF_N[place], house.rowPlace(0, OF_N[place]), place);
        }
        int[] others = {0, -1, -1234, 123, 12340, 11234, 1224, 1235, 1034, 3124, 4213, 2341, 1230, 91234,
            Integer.MAX_VALUE, Integer.MIN_VALUE};
        for (int row : others) {
            Due.is("place of " + row, house.rowPlace(0, row), -1);
        }
        Due.is("place of 0 of none", house.rowPlace(1, 0), 0);
        Due.is("place of 1 of none", house.rowPlace(1, 1), -1);
        Due.is("place of -1 of none", house.rowPlace(1, -1), -1);
        house.lay(2, 9);
        Due.is("the last of many", house.rowPlace(2, 987654321), 362879);
        Due.is("ten digits", house.rowPlace(2, 1987654321), -1);
        Due.is("ten digits and a 0", house.rowPlace(2, 1234567890), -1);
        Due.isThrown("rowPlace(4, 0)", Due.NO_INDEX, house, () -> house.rowPlace(4, 0));
        Due.isThrown("rowPlace(-1, 0)", Due.NO_INDEX, house, () -> house.rowPlace(-1, 0));
    }

    private static void promise46NextRow() {
        Belowhouse house = Due.letterN();
        for (int place = 0; place + 1 < OF_N.length; place++) {
            Due.is("next of " + OF_N[place], house.nextRow(0, OF_N[place]), OF_N[place + 1]);
        }
        Due.is("next of the last", house.nextRow(0, 2413), -1);
        Due.is("next of none", house.nextRow(1, 0), -1);
        house.lay(2, 9);
        Due.is("next of a long one", house.nextRow(2, 198765432), 213456789);
        Due.isThrown("nextRow(0, 3124)", Due.NO_ARGUMENT, house, () -> house.nextRow(0, 3124));
        Due.isThrown("nextRow(0, 0)", Due.NO_ARGUMENT, house, () -> house.nextRow(0, 0));
        Due.isThrown("nextRow(0, -1234)", Due.NO_ARGUMENT, house, () -> house.nextRow(0, -1234));
        Due.isThrown("nextRow(1, 1)", Due.NO_ARGUMENT, house, () -> house.nextRow(1, 1));
        Due.isThrown("nextRow(4, 1)", Due.NO_INDEX, house, () -> house.nextRow(4, 1));
        Due.isThrown("nextRow(-1, 1)", Due.NO_INDEX, house, () -> house.nextRow(-1, 1));
    }

    private static void promise47RowsWith() {
        Belowhouse house = Due.letterN();
        Due.is("0 ahead of 1", house.rowsWith(0, 0, 1), 2);
        Due.is("1 ahead of 0", house.rowsWith(0, 1, 0), 3);
        Due.is("0 ahead of 3", house.rowsWith(0, 0, 3), 4);
        Due.is("2 ahead of 3", house.rowsWith(0, 2, 3), 2);
        Due.is("0 ahead of 2", house.rowsWith(0, 0, 2), 5);
        Due.is("2 ahead of 0", house.rowsWith(0, 2, 0), 0);
        Due.is("the same", house.rowsWith(0, 3, 3), 0);
        Due.isThrown("rowsWith(0, 4, 0)", Due.NO_INDEX, house, () -> house.rowsWith(0, 4, 0));
        Due.isThrown("rowsWith(0, 0, 4)", Due.NO_INDEX, house, () -> house.rowsWith(0, 0, 4));
        Due.isThrown("rowsWith(0, -1, -1)", Due.NO_INDEX, house, () -> house.rowsWith(0, -1, -1));
        Due.isThrown("rowsWith(4, 0, 0)", Due.NO_INDEX, house, () -> house.rowsWith(4, 0, 0));
        house.lay(2, 9);
        Due.is("half of many", house.rowsWith(2, 8, 0), 181440);
    }

    private static void promise48RowsAt() {
        Belowhouse house = Due.letterN();
        int[] due = {0, 1, 2, 2};
        for (int place = 0; place < due.length; place++) {
            Due.is("rows with 3 behind " + place, house.rowsAt(0, 3, place), due[place]);
        }
        Due.is("rows with 0 as the first", house.rowsAt(0, 0, 0), 2);
        Due.is("behind 4", house.rowsAt(0, 3, 4), 0);
        Due.is("behind -1", house.rowsAt(0, 3, -1), 0);
        Due.is("behind the least int", house.rowsAt(0, 3, Integer.MIN_VALUE), 0);
        Due.is("behind the greatest int", house.rowsAt(0, 3, Integer.MAX_VALUE), 0);
        Due.isThrown("rowsAt(0, 4, 0)", Due.NO_INDEX, house, () -> house.rowsAt(0, 4, 0));
        Due.isThrown("rowsAt(0, -1, 0)", Due.NO_INDEX, house, () -> house.rowsAt(0, -1, 0));
        Due.isThrown("rowsAt(1, 0, 0)", Due.NO_INDEX, house, () -> house.rowsAt(1, 0, 0));
        Due.isThrown("rowsAt(4, 0, 0)", Due.NO_INDEX, house, () -> house.rowsAt(4, 0, 0));
        house.lay(2, 9);
        for (int place = 0; place < 9; place++) {
            Due.is("of many, behind " + place, house.rowsAt(2, 4, place), 40320);
        }
    }

    private static void promise49MeanPlace() {
        Belowhouse house = Due.letterN();
        Due.is("of 3", house.meanPlace(0, 3), 11.0 / 5.0);
        Due.is("of 0", house.meanPlace(0, 0), 4.0 / 5.0);
        Due.is("of 1", house.meanPlace(0, 1), 2.0 / 5.0);
        Due.is("of 2", house.meanPlace(0, 2), 13.0 / 5.0);
        house.lay(1, 1);
        Due.is("alone", house.meanPlace(1, 0), 0.0);
        house.lay(2, 9);
        Due.is("of many", house.meanPlace(2, 4), 4.0);
        Due.isThrown("meanPlace(0, 4)", Due.NO_INDEX, house, () -> house.meanPlace(0, 4));
        Due.isThrown("meanPlace(0, -1)", Due.NO_INDEX, house, () -> house.meanPlace(0, -1));
        Due.isThrown("meanPlace(3, 0)", Due.NO_INDEX, house, () -> house.meanPlace(3, 0));
        Due.isThrown("meanPlace(4, 0)", Due.NO_INDEX, house, () -> house.meanPlace(4, 0));
    }

    private static void promise50Share() {
        Belowhouse house = Due.letterN();
        Due.is("0 ahead of 1", house.share(0, 0, 1), 2.0f / 5.0f);
        Due.is("0 ahead of 2", house.share(0, 0, 2), 1.0f);
        Due.is("2 ahead of 0", house.share(0, 2, 0), 0.0f);
        Due.is("the same", house.share(0, 1, 1), 0.0f);
        Due.isThrown("share(0, 4, 0)", Due.NO_INDEX, house, () -> house.share(0, 4, 0));
        Due.isThrown("share(0, 0, -1)", Due.NO_INDEX, house, () -> house.share(0, 0, -1));
        Due.isThrown("share(3, 0, 0)", Due.NO_INDEX, house, () -> house.share(3, 0, 0));
        Due.isThrown("share(-1, 0, 0)", Due.NO_INDEX, house, () -> house.share(-1, 0, 0));
    }

    private RowsTest() {
    }
}
