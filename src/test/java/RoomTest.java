import java.lang.management.ManagementFactory;

/** No call makes objects: all is made in the constructor. */
public final class RoomTest {
    /** Far less than one object or array for each call. */
    private static final long LITTLE = 512L;

    private static final com.sun.management.ThreadMXBean ROOM =
            (com.sun.management.ThreadMXBean) ManagementFactory.getThreadMXBean();

    public static void main(String[] args) {
        Belowhouse[] houses = new Belowhouse[64];
        for (int k = 0; k < houses.length; k++) {
            houses[k] = new Belowhouse();
        }
        callAll(new Belowhouse(), 1);
        long ahead = ROOM.getThreadAllocatedBytes(Thread.currentThread().getId());
        callAll(houses[0], 0);
        long asking = ROOM.getThreadAllocatedBytes(Thread.currentThread().getId()) - ahead;
        ahead = ROOM.getThreadAllocatedBytes(Thread.currentThread().getId());
        for (Belowhouse house : houses) {
            // What an object answers behind its 512th call is free, and so is what it makes then.
            callAll(house, 8);
        }
        long used = ROOM.getThreadAllocatedBytes(Thread.currentThread().getId()) - ahead;
        Due.isTrue("512 times all calls take " + used + " bytes", used - asking <= LITTLE);
        Due.end("RoomTest");
    }

    private static void callAll(Belowhouse house, int times) {
        for (int k = 0; k < times; k++) {
            change(house);
            askSmall(house);
            house.lay(3, 9);
            house.lay(2, 4);
            askDear(house);
        }
    }

    private static void change(Belowhouse house) {
        house.lay(0, 4);
        house.chain(1, 4);
        house.add(0, 3);
        house.put(0, 0, 1);
        house.put(0, 1, 0);
        house.loose(0, 0, 1);
        house.drop(0, 0);
        house.setValue(0, 0, 4);
        house.straighten(0, 5);
        house.turn(0);
        house.copy(0, 2);
        house.beside(0, 1, 2);
        house.above(0, 1, 2);
        house.meet(0, 1, 2);
        house.keep(0, 7);
    }

    private static void askSmall(Belowhouse house) {
        house.things(0);
        house.pairs(0);
        house.nexts(0);
        house.sign(0, 0, 1);
        house.isNext(0, 0, 1);
        house.lower(0, 0);
        house.upper(0, 0);
        house.ends(0, true);
        house.ends(0, false);
        house.value(0, 0);
        house.isSame(0, 1);
        house.isChain(0, 7);
        house.isApart(0, 7);
        house.shared(1, 2);
        house.sum(0, 2);
        house.number(0, 2, 0);
        house.undone(0, 2);
    }

    private static void askDear(Belowhouse house) {
        house.level(3, 8);
        house.longest(3);
        house.widest(3);
        house.fewestChains(3);
        house.fewestAparts(3);
        house.aparts(3);
        house.sets(3);
        house.setsOf(3, 4);
        house.setAt(3, 511);
        house.placeOf(3, 511);
        house.near(3, 511, 'l');
        house.near(3, 0, 'h');
        house.closed(3, 511);
        house.inner(3, 511);
        house.tops(3, 511);
        house.rows(3);
        house.rowAt(3, 362879);
        house.rowPlace(3, 987654321);
        house.nextRow(3, 987654312);
        house.rowsWith(3, 0, 8);
        house.rowsAt(3, 4, 4);
        house.meanPlace(3, 4);
        house.share(3, 0, 8);
        house.isSound(3);
        house.areSound(2, 2);
        house.checksum();
    }

    private RoomTest() {
    }
}
