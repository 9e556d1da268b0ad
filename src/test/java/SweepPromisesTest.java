import java.util.TreeMap;

/** Promises 9 to 13: sweeps. */
public final class SweepPromisesTest {
    private static final Class<IllegalStateException> STATE = IllegalStateException.class;
    private static final Class<IndexOutOfBoundsException> BOUNDS = IndexOutOfBoundsException.class;
    private static final int[] NO_SWEEPS = {-1, 1, 3, 4, 5, Integer.MIN_VALUE, Integer.MAX_VALUE};

    private static final Checks checks = new Checks("SweepPromisesTest");

    public static void main(String[] args) {
        promise9OpenSweep();
        promise10HasNext();
        promise11PlainOrder();
        promise11MixedOrder();
        promise11KeysComeAndGo();
        promise11OverMoves();
        promise11NoNext();
        promise12RemoveMet();
        promise12NotTwice();
        promise12KeyIsGone();
        promise12Slices();
        promise13CloseSweep();
        noSuchSweep();
        checks.close();
    }

    private static void promise9OpenSweep() {
        RobinRow row = Rows.plain(1, 2);
        for (int number = 0; number < 4; number++) {
            checks.due("9: sweep " + number, row.openSweep(), number);
        }
        checks.thrown(row, "9: a fifth sweep", STATE, row::openSweep);
        row.next(1);
        row.closeSweep(2);
        row.closeSweep(1);
        checks.due("9: the lowest free number", row.openSweep(), 1);
        checks.thrown(row, "9: the new sweep has met none", STATE, () -> row.removeMet(1));
        checks.due("9: it begins with the first key", row.next(1), 2);
        checks.due("9: the next free number", row.openSweep(), 2);
        checks.thrown(row, "9: a fifth sweep again", STATE, row::openSweep);
    }

    private static void promise10HasNext() {
        RobinRow row = Rows.plain();
        row.openSweep();
        checks.due("10: no keys", row.hasNext(0), false);
        row.put(2, 1);
        checks.due("10: a key", row.hasNext(0), true);
        checks.due("10: still ahead", row.hasNext(0), true);
        row.next(0);
        checks.due("10: none behind it", row.hasNext(0), false);
        row.put(4, 1);
        checks.due("10: a key ahead of it", row.hasNext(0), false);
        row.put(1, 1);
        checks.due("10: a key behind it", row.hasNext(0), true);
        row.remove(1);
        checks.due("10: and out again", row.hasNext(0), false);
        row.openSweep();
        checks.due("10: another sweep", row.hasNext(1), true);
        checks.due("10: met", row.closeSweep(0), 1);
    }

    private static void promise11PlainOrder() {
        int[] order = {0, Integer.MIN_VALUE, 4, 2, 6, 1, 5, 3, Integer.MAX_VALUE, -1};
        RobinRow row = Rows.plain(6, -1, 3, 0, Integer.MAX_VALUE, 5, 2, Integer.MIN_VALUE, 1, 4);
        row.openSweep();
        for (int key : order) {
            checks.due("11: plain order", row.next(0), key);
        }
        checks.due("11: the end", row.hasNext(0), false);
    }

    private static void promise11MixedOrder() {
        RobinRow row = new RobinRow();
        TreeMap<Long, Integer> keys = new TreeMap<>();
        for (int key = -60; key < 60; key++) {
            keys.put(Integer.toUnsignedLong(Integer.reverse(row.hash(key))), key);
            row.put(key, 1);
        }
        row.openSweep();
        for (int key : keys.values()) {
            checks.due("11: mixed order", row.next(0), key);
        }
        checks.due("11: met", row.closeSweep(0), 120);
    }

    private static void promise11KeysComeAndGo() {
        RobinRow row = Rows.plain(4, 2, 1);
        row.openSweep();
        checks.due("11: the first", row.next(0), 4);
        row.remove(4);
        row.remove(2);
        row.put(6, 1);
        row.put(0, 1);
        checks.due("11: one that came in, not the one that went out", row.next(0), 6);
        row.put(4, 1);
        row.remove(6);
        row.put(6, 1);
        checks.due("11: none twice", row.next(0), 1);
        row.put(1, 5);
        checks.due("11: the end", row.hasNext(0), false);
        row.openSweep();
        checks.due("11: another sweep meets the first of all", row.next(1), 0);
    }

    private static void promise11OverMoves() {
        RobinRow row = Rows.counted(7);
        row.openSweep();
        checks.due("11: before the move", row.next(0), 0);
        row.put(7, 107);
        int[] both = {4, 2, 6};
        for (int key : both) {
            checks.due("11: out of both tables", row.next(0), key);
        }
        row.move();
        checks.due("11: after a slice", row.next(0), 1);
        row.move();
        for (int key : new int[] {5, 3, 7}) {
            checks.due("11: after the move", row.next(0), key);
        }
        checks.due("11: all keys once", row.closeSweep(0), 8);
    }

    private static void promise11NoNext() {
        RobinRow row = Rows.plain();
        row.openSweep();
        checks.thrown(row, "11: no keys", STATE, () -> row.next(0));
        row.put(2, 9);
        row.next(0);
        checks.thrown(row, "11: none behind", STATE, () -> row.next(0));
        checks.due("11: the one met last is still the one to take out", row.removeMet(0), 9);
        row.put(3, 1);
        checks.due("11: one came in behind", row.next(0), 3);
        checks.due("11: calls that threw met none", row.closeSweep(0), 2);
    }

    private static void promise12RemoveMet() {
        RobinRow row = Rows.plain(1, 9, 2, 17);
        row.openSweep();
        checks.thrown(row, "12: none met", STATE, () -> row.removeMet(0));
        checks.due("12: the first", row.next(0), 2);
        checks.due("12: its value", row.removeMet(0), 102);
        checks.due("12: it is gone", row.get(2), RobinRow.NONE);
        checks.due("12: the next", row.next(0), 1);
        checks.due("12: its value", row.removeMet(0), 100);
        checks.due("12: keys shift back", Pictures.keysOf(row, 0), " . 9=101 17=103 . . . . .");
        checks.due("12: met", row.closeSweep(0), 2);
    }

    private static void promise12NotTwice() {
        RobinRow row = Rows.plain(1, 2);
        row.openSweep();
        row.openSweep();
        row.next(0);
        row.next(1);
        row.removeMet(0);
        checks.thrown(row, "12: twice", STATE, () -> row.removeMet(0));
        row.put(2, 50);
        checks.thrown(row, "12: twice, though it is there again", STATE, () -> row.removeMet(0));
        checks.due("12: another sweep may", row.removeMet(1), 50);
        row.next(0);
        checks.due("12: having met another", row.removeMet(0), 100);
    }

    private static void promise12KeyIsGone() {
        RobinRow row = Rows.plain(1, 2);
        row.openSweep();
        row.next(0);
        row.remove(2);
        checks.thrown(row, "12: not there any more", STATE, () -> row.removeMet(0));
        row.put(2, 7);
        checks.due("12: there again", row.removeMet(0), 7);
        RobinRow moving = Rows.counted(7);
        moving.openSweep();
        moving.next(0);
        moving.remove(0);
        moving.put(7, 1);
        moving.put(8, 1);
        checks.due("12: a move goes on", moving.keysIn(1), 7);
        checks.thrown(moving, "12: no slice", STATE, () -> moving.removeMet(0));
    }

    private static void promise12Slices() {
        RobinRow row = Rows.counted(8);
        row.openSweep();
        row.next(0);
        row.next(0);
        checks.due("12: out of the old table", row.removeMet(0), 104);
        checks.due("12: behind a slice", Pictures.keysOf(row, 1), " . . . . . 5=105 6=106 .");
        checks.thrown(row, "12: twice, and no slice", STATE, () -> row.removeMet(0));
        checks.due("12: the next", row.next(0), 2);
        checks.due("12: out of the present table", row.removeMet(0), 102);
        checks.due("12: the move is over", row.slots(1), 0);
    }

    private static void promise13CloseSweep() {
        RobinRow row = Rows.plain(1, 2, 3);
        row.openSweep();
        checks.due("13: none met", row.closeSweep(0), 0);
        checks.thrown(row, "13: closed", BOUNDS, () -> row.closeSweep(0));
        row.openSweep();
        row.openSweep();
        row.next(1);
        row.next(1);
        row.removeMet(1);
        row.next(1);
        row.next(0);
        checks.due("13: three met", row.closeSweep(1), 3);
        checks.due("13: the other goes on", row.next(0), 3);
        checks.due("13: two met", row.closeSweep(0), 2);
        checks.due("13: the number is free again", row.openSweep(), 0);
        checks.due("13: and counts anew", row.closeSweep(0), 0);
    }

    private static void noSuchSweep() {
        for (int number : NO_SWEEPS) {
            RobinRow row = Rows.counted(8);
            row.openSweep();
            checks.thrown(row, "10: sweep " + number, BOUNDS, () -> row.hasNext(number) ? 1 : 0);
            checks.thrown(row, "11: sweep " + number, BOUNDS, () -> row.next(number));
            RobinRow other = Rows.counted(8);
            other.openSweep();
            checks.thrown(other, "12: sweep " + number, BOUNDS, () -> other.removeMet(number));
            checks.thrown(other, "13: sweep " + number, BOUNDS, () -> other.closeSweep(number));
        }
    }
}
