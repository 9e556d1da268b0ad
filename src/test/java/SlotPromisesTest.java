/** Promises 14 to 21: the calls that look into the slots. */
public final class SlotPromisesTest {
    private static final Class<IllegalStateException> STATE = IllegalStateException.class;
    private static final Class<IndexOutOfBoundsException> BOUNDS = IndexOutOfBoundsException.class;
    private static final int[] NO_TABLES = {-1, 2, 3, Integer.MIN_VALUE, Integer.MAX_VALUE};
    private static final int[] NO_SLOTS_OF_OLD = {-1, 8, 9, 15, Integer.MIN_VALUE, Integer.MAX_VALUE};

    private static final Checks checks = new Checks("SlotPromisesTest");

    public static void main(String[] args) {
        promise14Hash();
        promise15Slots();
        promise16KeysIn();
        promise17Control();
        promise18KeyAt();
        promise19DistanceAt();
        promise20Longest();
        promise21Total();
        noSuchTable();
        noSuchSlot();
        checks.close();
    }

    private static void promise14Hash() {
        RobinRow row = new RobinRow();
        checks.due("14: mixed 0", row.hash(0), 0);
        checks.due("14: mixed 1", row.hash(1), -1640610337);
        checks.due("14: mixed -1", row.hash(-1), 1640515038);
        checks.due("14: mixed least", row.hash(Integer.MIN_VALUE), Integer.MIN_VALUE | 1 << 16);
        row.clear(RobinRow.PLAIN);
        for (int key : new int[] {0, 1, -1, 1 << 25, Integer.MIN_VALUE, Integer.MAX_VALUE}) {
            checks.due("14: plain " + key, row.hash(key), key);
        }
        row.clear(RobinRow.MIXED);
        checks.due("14: mixed again", row.hash(1), -1640610337);
    }

    private static void promise15Slots() {
        RobinRow row = Rows.counted(7);
        checks.due("15: at first", row.slots(0), 8);
        checks.due("15: no old table", row.slots(1), 0);
        row.put(7, 0);
        checks.due("15: twice as many", row.slots(0), 16);
        checks.due("15: the old table", row.slots(1), 8);
        row.move();
        checks.due("15: still there", row.slots(1), 8);
        row.move();
        checks.due("15: gone", row.slots(1), 0);
        checks.due("15: stays", row.slots(0), 16);
        for (int key = 0; key < 8; key++) {
            row.remove(key);
        }
        checks.due("15: no table shrinks", row.slots(0), 16);
    }

    private static void promise16KeysIn() {
        RobinRow row = Rows.counted(7);
        checks.due("16: before", row.keysIn(0), 7);
        checks.due("16: no old table", row.keysIn(1), 0);
        row.put(7, 0);
        checks.due("16: the new one", row.keysIn(0), 1);
        checks.due("16: the old ones", row.keysIn(1), 7);
        row.move();
        checks.due("16: taken over", row.keysIn(0), 5);
        checks.due("16: left", row.keysIn(1), 3);
        row.remove(7);
        checks.due("16: all but one", row.keysIn(0), 7);
        checks.due("16: none", row.keysIn(1), 0);
    }

    private static void promise17Control() {
        RobinRow row = Rows.plain(0, 1 << 25 | 1, 127 << 25 | 2, -5, Integer.MAX_VALUE & ~7 | 4, (1 << 25) - 3);
        byte[] want = {0, 1, 127, 127, 63, 0, -128, -128};
        for (int slot = 0; slot < 8; slot++) {
            checks.due("17: slot " + slot, row.control(0, slot), want[slot]);
        }
        row.remove(0);
        checks.due("17: taken out", row.control(0, 0), -128);
        RobinRow moving = Rows.counted(8);
        checks.due("17: old", moving.control(1, 6), 0);
        checks.due("17: old and empty", moving.control(1, 7), -128);
        moving.move();
        checks.due("17: taken over", moving.control(1, 0), -128);
        checks.due("17: come over", moving.control(0, 0), 0);
        RobinRow mixed = new RobinRow();
        mixed.put(1, 1);
        checks.due("17: by the hash, not the key", mixed.control(0, mixed.hash(1) & 7), mixed.hash(1) >>> 25);
    }

    private static void promise18KeyAt() {
        RobinRow row = Rows.plain(1, 9, -6, -1);
        int[] keys = {1, 9, -6};
        for (int i = 0; i < keys.length; i++) {
            checks.due("18: slot " + (i + 1), row.keyAt(0, i + 1), keys[i]);
        }
        checks.due("18: slot 7", row.keyAt(0, 7), -1);
        checks.thrown(row, "18: empty slot 0", STATE, () -> row.keyAt(0, 0));
        checks.thrown(row, "18: empty slot 6", STATE, () -> row.keyAt(0, 6));
        row.remove(9);
        checks.thrown(row, "18: slot that has become empty", STATE, () -> row.keyAt(0, 3));
        RobinRow moving = Rows.counted(8);
        checks.due("18: old", moving.keyAt(1, 6), 6);
        checks.thrown(moving, "18: empty old slot", STATE, () -> moving.keyAt(1, 7));
    }

    private static void promise19DistanceAt() {
        RobinRow row = Rows.plain(6, 14, 22, 30);
        int[] want = {2, 3, -1, -1, -1, -1, 0, 1};
        for (int slot = 0; slot < 8; slot++) {
            checks.due("19: slot " + slot, row.distanceAt(0, slot), want[slot]);
        }
        RobinRow moving = Rows.plain(0, 8, 16, 24, 32, 40, 48, 56);
        for (int slot = 0; slot < 8; slot++) {
            checks.due("19: old slot " + slot, moving.distanceAt(1, slot), slot < 7 ? slot : RobinRow.NONE);
        }
        checks.due("19: present", moving.distanceAt(0, 8), 0);
        checks.due("19: empty", moving.distanceAt(0, 0), RobinRow.NONE);
        RobinRow negative = Rows.plain(-8, -16);
        checks.due("19: a negative hash", negative.distanceAt(0, 1), 1);
    }

    private static void promise20Longest() {
        checks.due("20: no keys", Rows.plain().longest(), RobinRow.NONE);
        checks.due("20: at home", Rows.plain(3).longest(), 0);
        checks.due("20: over the last slot", Rows.plain(6, 14, 22, 30).longest(), 3);
        checks.due("20: not the last one", Rows.plain(1, 9, 17, 5).longest(), 2);
        RobinRow row = Rows.plain(0, 8, 16, 24, 32, 40, 48);
        checks.due("20: seven", row.longest(), 6);
        row.put(56, 1);
        checks.due("20: the present table alone", row.longest(), 0);
        row.move();
        checks.due("20: after a slice", row.longest(), 2);
        row.clear(RobinRow.PLAIN);
        checks.due("20: cleared", row.longest(), RobinRow.NONE);
        row.put(1, 1);
        row.remove(1);
        checks.due("20: taken out", row.longest(), RobinRow.NONE);
    }

    private static void promise21Total() {
        checks.due("21: no keys", Rows.plain().total(), 0);
        checks.due("21: at home", Rows.plain(3, 4).total(), 0);
        checks.due("21: over the last slot", Rows.plain(6, 14, 22, 30).total(), 6);
        RobinRow row = Rows.plain(0, 8, 16, 24, 32, 40, 48);
        checks.due("21: seven", row.total(), 21);
        row.put(56, 1);
        checks.due("21: the present table alone", row.total(), 0);
        row.move();
        checks.due("21: after a slice", row.total(), 0 + 1 + 0 + 1 + 2);
        row.remove(8);
        checks.due("21: with one taken out", row.total(), 6 + 3);
    }

    private static void noSuchTable() {
        for (int table : NO_TABLES) {
            RobinRow row = Rows.counted(8);
            checks.thrown(row, "15: table " + table, BOUNDS, () -> row.slots(table));
            checks.thrown(row, "16: table " + table, BOUNDS, () -> row.keysIn(table));
            checks.thrown(row, "17: table " + table, BOUNDS, () -> row.control(table, 0));
            RobinRow other = Rows.counted(8);
            checks.thrown(other, "18: table " + table, BOUNDS, () -> other.keyAt(table, 0));
            checks.thrown(other, "19: table " + table, BOUNDS, () -> other.distanceAt(table, 0));
        }
    }

    private static void noSuchSlot() {
        for (int slot : NO_SLOTS_OF_OLD) {
            RobinRow row = Rows.counted(8);
            checks.thrown(row, "17: old slot " + slot, BOUNDS, () -> row.control(1, slot));
            checks.thrown(row, "18: old slot " + slot, BOUNDS, () -> row.keyAt(1, slot));
            checks.thrown(row, "19: old slot " + slot, BOUNDS, () -> row.distanceAt(1, slot));
        }
        for (int slot : new int[] {-1, 16, 255, 256, Integer.MIN_VALUE, Integer.MAX_VALUE}) {
            RobinRow row = Rows.counted(8);
            checks.thrown(row, "17: present slot " + slot, BOUNDS, () -> row.control(0, slot));
            checks.thrown(row, "18: present slot " + slot, BOUNDS, () -> row.keyAt(0, slot));
            checks.thrown(row, "19: present slot " + slot, BOUNDS, () -> row.distanceAt(0, slot));
        }
        RobinRow still = Rows.counted(7);
        checks.thrown(still, "17: no old table", BOUNDS, () -> still.control(1, 0));
        checks.thrown(still, "18: no old table", BOUNDS, () -> still.keyAt(1, 0));
        checks.thrown(still, "19: no old table", BOUNDS, () -> still.distanceAt(1, 0));
        RobinRow over = Rows.counted(8);
        over.move();
        over.move();
        checks.thrown(over, "17: no old table any more", BOUNDS, () -> over.control(1, 0));
    }
}
