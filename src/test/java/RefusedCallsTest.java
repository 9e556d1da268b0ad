import java.util.ArrayList;
import java.util.List;
import java.util.function.Supplier;
import java.util.function.ToLongFunction;

/**
 * "A call that throws an exception changes nothing; of several exceptions that apply, the one that
 * its throws clause names first is thrown." Each refused call is made on one of two objects with the
 * same past; behind it, both must answer the same to calls that bring everything to light.
 */
public final class RefusedCallsTest {
    private static final Class<IllegalArgumentException> ARGUMENT = IllegalArgumentException.class;
    private static final Class<IllegalStateException> STATE = IllegalStateException.class;
    private static final Class<IndexOutOfBoundsException> BOUNDS = IndexOutOfBoundsException.class;
    private static final int LEAST = Integer.MIN_VALUE;
    private static final int GREATEST = Integer.MAX_VALUE;

    private static final Checks checks = new Checks("RefusedCallsTest");

    public static void main(String[] args) {
        wrongWays();
        wrongValues();
        noRoomForAKey();
        noFreeSweep();
        noSuchSweep();
        noNextKey();
        noKeyToTakeOut();
        noSuchTable();
        noSuchSlot();
        emptySlots();
        keysThatAreThere();
        theFirstOfTwo();
        manyRefusals();
        checks.close();
    }

    /** The state in which the most calls can be refused: see the lines. */
    private static RobinRow busy() {
        RobinRow row = Rows.counted(7);
        for (int sweep = 0; sweep < 4; sweep++) {
            row.openSweep();
        }
        row.next(1);
        row.next(2);
        row.removeMet(2); // the key 0: gone for sweep 1, taken out by sweep 2
        while (row.hasNext(3)) {
            row.next(3);
        }
        row.put(8, 108);
        row.put(7, 107); // a move begins, and goes on: 7 keys in the old table
        row.next(3); // the key 7, behind which there is none
        return row;
    }

    private static RobinRow atTheEdgeOfAMove() {
        RobinRow row = Rows.counted(7);
        row.openSweep();
        row.next(0);
        return row;
    }

    private static RobinRow fresh() {
        return new RobinRow();
    }

    private static RobinRow freshWithASweep() {
        RobinRow row = new RobinRow();
        row.openSweep();
        return row;
    }

    private static RobinRow full() {
        RobinRow row = Rows.counted(200);
        row.openSweep();
        row.next(0);
        return row;
    }

    private static void wrongWays() {
        for (int way : new int[] {-1, 2, 3, LEAST, GREATEST}) {
            ToLongFunction<RobinRow> call = row -> {
                row.clear(way);
                return 0;
            };
            refused("clear(" + way + ")", ARGUMENT, RefusedCallsTest::busy, call);
            refused("clear(" + way + ")", ARGUMENT, RefusedCallsTest::fresh, call);
            refused("clear(" + way + ")", ARGUMENT, RefusedCallsTest::full, call);
        }
    }

    private static void wrongValues() {
        for (int value : new int[] {-1, -2, LEAST}) {
            refused("put(4, " + value + "), in the old table", ARGUMENT, RefusedCallsTest::busy, row -> row.put(4, value));
            refused("put(7, " + value + "), in the present one", ARGUMENT, RefusedCallsTest::busy, row -> row.put(7, value));
            refused("put(99, " + value + "), a new key", ARGUMENT, RefusedCallsTest::busy, row -> row.put(99, value));
            refused("put(7, " + value + "), no move begins", ARGUMENT, RefusedCallsTest::atTheEdgeOfAMove,
                    row -> row.put(7, value));
            refused("put(0, " + value + ")", ARGUMENT, RefusedCallsTest::fresh, row -> row.put(0, value));
            refused("put(3, " + value + "), full", ARGUMENT, RefusedCallsTest::full, row -> row.put(3, value));
        }
    }

    private static void noRoomForAKey() {
        for (int key : new int[] {200, -1, 256, LEAST, GREATEST}) {
            refused("put(" + key + ", 0)", STATE, RefusedCallsTest::full, row -> row.put(key, 0));
        }
    }

    private static void noFreeSweep() {
        refused("openSweep()", STATE, RefusedCallsTest::busy, RobinRow::openSweep);
        refused("openSweep()", STATE, () -> {
            RobinRow row = fresh();
            for (int sweep = 0; sweep < 4; sweep++) {
                row.openSweep();
            }
            return row;
        }, RobinRow::openSweep);
    }

    private static void noSuchSweep() {
        for (int sweep : new int[] {-1, 4, 5, LEAST, GREATEST}) {
            sweepCalls(sweep, RefusedCallsTest::busy);
            sweepCalls(sweep, RefusedCallsTest::fresh);
        }
        for (int sweep = 0; sweep < 4; sweep++) {
            int closed = sweep;
            sweepCalls(closed, RefusedCallsTest::fresh);
            sweepCalls(closed, () -> {
                RobinRow row = busy();
                row.closeSweep(closed);
                return row;
            });
            sweepCalls(closed, () -> {
                RobinRow row = busy();
                row.clear(RobinRow.PLAIN);
                return row;
            });
        }
    }

    private static void sweepCalls(int sweep, Supplier<RobinRow> maker) {
        refused("hasNext(" + sweep + ")", BOUNDS, maker, row -> row.hasNext(sweep) ? 1 : 0);
        refused("next(" + sweep + ")", BOUNDS, maker, row -> row.next(sweep));
        refused("removeMet(" + sweep + ")", BOUNDS, maker, row -> row.removeMet(sweep));
        refused("closeSweep(" + sweep + ")", BOUNDS, maker, row -> row.closeSweep(sweep));
    }

    private static void noNextKey() {
        refused("next(3), at the end", STATE, RefusedCallsTest::busy, row -> row.next(3));
        refused("next(0), no keys", STATE, RefusedCallsTest::freshWithASweep, row -> row.next(0));
        refused("next(0), behind the last key of all", STATE, () -> {
            RobinRow row = Rows.plain(-1);
            row.openSweep();
            row.next(0);
            return row;
        }, row -> row.next(0));
    }

    private static void noKeyToTakeOut() {
        refused("removeMet(0), none met", STATE, RefusedCallsTest::busy, row -> row.removeMet(0));
        refused("removeMet(1), its key is gone", STATE, RefusedCallsTest::busy, row -> row.removeMet(1));
        refused("removeMet(2), taken out", STATE, RefusedCallsTest::busy, row -> row.removeMet(2));
        refused("removeMet(2), taken out and put again", STATE, () -> {
            RobinRow row = busy();
            row.put(0, 50);
            return row;
        }, row -> row.removeMet(2));
        refused("removeMet(0), no keys", STATE, RefusedCallsTest::freshWithASweep, row -> row.removeMet(0));
    }

    private static void noSuchTable() {
        for (int table : new int[] {-1, 2, 3, LEAST, GREATEST}) {
            for (Supplier<RobinRow> maker : List.<Supplier<RobinRow>>of(RefusedCallsTest::busy, RefusedCallsTest::fresh)) {
                refused("slots(" + table + ")", BOUNDS, maker, row -> row.slots(table));
                refused("keysIn(" + table + ")", BOUNDS, maker, row -> row.keysIn(table));
                slotCalls(table, 0, maker);
            }
        }
    }

    private static void noSuchSlot() {
        for (int slot : new int[] {-1, 16, 17, 255, 256, LEAST, GREATEST}) {
            slotCalls(RobinRow.PRESENT, slot, RefusedCallsTest::busy);
        }
        for (int slot : new int[] {-1, 8, 15, 16, 255, 256, LEAST, GREATEST}) {
            slotCalls(RobinRow.OLD, slot, RefusedCallsTest::busy);
            slotCalls(RobinRow.PRESENT, slot, RefusedCallsTest::fresh);
        }
        for (int slot : new int[] {-1, 0, 7, LEAST, GREATEST}) {
            slotCalls(RobinRow.OLD, slot, RefusedCallsTest::fresh);
            slotCalls(RobinRow.OLD, slot, RefusedCallsTest::atTheEdgeOfAMove);
        }
        slotCalls(RobinRow.PRESENT, 256, RefusedCallsTest::full);
    }

    private static void slotCalls(int table, int slot, Supplier<RobinRow> maker) {
        String arguments = "(" + table + ", " + slot + ")";
        refused("control" + arguments, BOUNDS, maker, row -> row.control(table, slot));
        refused("keyAt" + arguments, BOUNDS, maker, row -> row.keyAt(table, slot));
        refused("distanceAt" + arguments, BOUNDS, maker, row -> row.distanceAt(table, slot));
    }

    private static void emptySlots() {
        refused("keyAt(0, 0)", STATE, RefusedCallsTest::fresh, row -> row.keyAt(0, 0));
        refused("keyAt(0, 7)", STATE, RefusedCallsTest::fresh, row -> row.keyAt(0, 7));
        refused("keyAt(0, 15)", STATE, RefusedCallsTest::busy, row -> row.keyAt(0, 15));
        refused("keyAt(1, 7), the empty one of the old table", STATE, () -> Rows.counted(8), row -> row.keyAt(1, 7));
        refused("keyAt(0, 255)", STATE, RefusedCallsTest::full, row -> row.keyAt(0, 255));
    }

    private static void keysThatAreThere() {
        refused("displaced(7)", STATE, RefusedCallsTest::busy, row -> row.displaced(7));
        refused("displaced(6)", STATE, RefusedCallsTest::atTheEdgeOfAMove, row -> row.displaced(6));
        refused("displaced(199)", STATE, RefusedCallsTest::full, row -> row.displaced(199));
    }

    private static void theFirstOfTwo() {
        refused("put(200, -1): a value below 0 before no room", ARGUMENT, RefusedCallsTest::full, row -> row.put(200, -1));
        refused("next(4): no sweep before no key", BOUNDS, RefusedCallsTest::fresh, row -> row.next(4));
        refused("removeMet(4): no sweep before no key", BOUNDS, RefusedCallsTest::fresh, row -> row.removeMet(4));
        refused("keyAt(2, -1): no table, no slot", BOUNDS, RefusedCallsTest::fresh, row -> row.keyAt(2, -1));
        refused("keyAt(0, 8): no slot before no key", BOUNDS, RefusedCallsTest::fresh, row -> row.keyAt(0, 8));
        refused("keyAt(1, 0): no slot before no key", BOUNDS, RefusedCallsTest::fresh, row -> row.keyAt(1, 0));
    }

    private static void manyRefusals() {
        refused("removeMet(1), removeMet(2) and next(3), three times each", STATE, RefusedCallsTest::busy, row -> {
            for (int time = 0; time < 3; time++) {
                Checks.answer(() -> row.removeMet(1));
                Checks.answer(() -> row.removeMet(2));
                Checks.answer(() -> row.next(3));
                Checks.answer(() -> row.put(4, -1));
            }
            return row.openSweep();
        });
    }

    private static void refused(String what, Class<? extends RuntimeException> want, Supplier<RobinRow> maker,
            ToLongFunction<RobinRow> call) {
        RobinRow asked = maker.get();
        RobinRow spared = maker.get();
        checks.due(what, Checks.answer(() -> call.applyAsLong(asked)), "throws " + want.getSimpleName());
        checks.due(what + ": what it left", story(asked), story(spared));
    }

    /** What an object answers to calls that use up all that it holds; a short one of a large object. */
    private static String story(RobinRow row) {
        List<String> told = new ArrayList<>();
        boolean isLarge = row.slots(RobinRow.PRESENT) > 16;
        told.add("hash " + row.hash(1));
        told.add(isLarge ? outline(row) : Pictures.of(row));
        for (int sweep = 0; sweep < 4; sweep++) {
            int number = sweep;
            told.add(Checks.answer(() -> row.removeMet(number)));
            String met = "";
            for (int i = 0; i < 12 && !met.startsWith("throws"); i++) {
                met = Checks.answer(() -> row.next(number));
                told.add(met);
            }
            told.add(Checks.answer(() -> row.closeSweep(number)));
        }
        for (int i = 0; i < 3; i++) {
            told.add(Checks.answer(row::move));
        }
        told.add(Checks.answer(row::openSweep));
        told.add(Checks.answer(() -> row.put(50, 1)));
        told.add(isLarge ? outline(row) : Pictures.of(row));
        return told.toString();
    }

    private static String outline(RobinRow row) {
        StringBuilder text = new StringBuilder();
        text.append(row.size()).append(' ').append(row.moves());
        text.append(' ').append(row.slots(0)).append(' ').append(row.slots(1));
        text.append(' ').append(row.total()).append(' ').append(row.longest());
        for (int key : new int[] {0, 3, 50, 199, 200, 256, -1}) {
            text.append(' ').append(row.get(key)).append(' ').append(row.comparisons(key));
        }
        return text.toString();
    }
}
