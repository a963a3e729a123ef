/** What README.md tells about its example is so. */
public final class ReadmeTest {
    public static void main(String[] args) {
        Belowhouse house = new Belowhouse();
        house.lay(0, 4);
        Due.is("put(0, 0, 1)", house.put(0, 0, 1), 1);
        Due.is("put(0, 1, 2)", house.put(0, 1, 2), 2);
        Due.isRefused("put(0, 2, 0)", house, () -> house.put(0, 2, 0));
        Due.is("sign(0, 0, 2)", house.sign(0, 0, 2), '<');
        Due.is("lower(0, 2)", house.lower(0, 2), 3);
        Due.is("rows(0)", house.rows(0), 4);
        int[] rows = {1234, 1243, 1423, 4123};
        for (int place = 0; place < rows.length; place++) {
            Due.is("rowAt(0, " + place + ")", house.rowAt(0, place), rows[place]);
        }
        Due.is("sets(0)", house.sets(0), 8);
        Due.is("setAt(0, 2)", house.setAt(0, 2), 8);
        Due.is("placeOf(0, 2)", house.placeOf(0, 2), Belowhouse.NONE);
        Due.isThrown("things(4)", Due.NO_INDEX, house, () -> house.things(4));
        Due.end("ReadmeTest");
    }

    private ReadmeTest() {
    }
}
