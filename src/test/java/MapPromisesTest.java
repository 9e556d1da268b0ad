/** Promises 1 to 8: a new object, and the calls of a map. */
public final class MapPromisesTest {
    private static final Class<IllegalArgumentException> ARGUMENT = IllegalArgumentException.class;
    private static final Class<IllegalStateException> STATE = IllegalStateException.class;
    private static final Class<IndexOutOfBoundsException> BOUNDS = IndexOutOfBoundsException.class;
    private static final String EMPTY_EIGHT = " . . . . . . . .";

    private static final Checks checks = new Checks("MapPromisesTest");

    public static void main(String[] args) {
        promise1NewObject();
        promise2Clear();
        promise2WrongWays();
        promise3Put();
        promise3Carrying();
        promise3Growth();
        promise3PutDuringMove();
        promise3WrongValues();
        promise3TwoHundredKeys();
        promise4Get();
        promise5Remove();
        promise5ShiftingBack();
        promise5RemoveDuringMove();
        promise5RemoveEndsMove();
        promise6Move();
        promise6SliceTakesLowestSlot();
        promise7Size();
        promise8Moves();
        checks.close();
    }

    private static void promise1NewObject() {
        RobinRow row = new RobinRow();
        checks.due("1: slots", row.slots(RobinRow.PRESENT), 8);
        checks.due("1: old slots", row.slots(RobinRow.OLD), 0);
        checks.due("1: all slots empty", Pictures.keysOf(row, RobinRow.PRESENT), EMPTY_EIGHT);
        checks.due("1: size", row.size(), 0);
        checks.due("1: moves", row.moves(), 0);
        checks.due("1: way", row.hash(1), -1640610337);
        for (int sweep = 0; sweep < 4; sweep++) {
            int number = sweep;
            checks.thrown(row, "1: sweep " + number, BOUNDS, () -> row.closeSweep(number));
        }
    }

    private static void promise2Clear() {
        RobinRow row = Rows.counted(8);
        row.openSweep();
        row.openSweep();
        row.next(1);
        row.clear(RobinRow.MIXED);
        checks.due("2: picture", Pictures.of(row), Pictures.of(new RobinRow()));
        checks.due("2: way MIXED", row.hash(1), -1640610337);
        checks.due("2: no key", row.get(3), RobinRow.NONE);
        checks.due("2: no move", row.move(), 0);
        checks.due("2: sweeps are free", row.openSweep(), 0);
        checks.thrown(row, "2: sweep 0 has met none", STATE, () -> row.removeMet(0));
        checks.due("2: sweep 0 counts anew", row.closeSweep(0), 0);
        row.clear(RobinRow.PLAIN);
        checks.due("2: way PLAIN", row.hash(1), 1);
        for (int key = 0; key < 7; key++) {
            row.put(key, key);
        }
        checks.due("2: 8 slots again", Pictures.keysOf(row, 0), " 0=0 1=1 2=2 3=3 4=4 5=5 6=6 .");
    }

    private static void promise2WrongWays() {
        for (int way : new int[] {-1, 2, 3, Integer.MIN_VALUE, Integer.MAX_VALUE}) {
            RobinRow row = Rows.counted(8);
            row.openSweep();
            checks.thrown(row, "2: clear(" + way + ")", ARGUMENT, () -> {
                row.clear(way);
                return 0;
            });
            checks.due("2: way after clear(" + way + ")", row.hash(1), 1);
        }
    }

    private static void promise3Put() {
        RobinRow row = new RobinRow();
        int[] keys = {0, -1, 1, Integer.MIN_VALUE, Integer.MAX_VALUE};
        for (int key : keys) {
            checks.due("3: new " + key, row.put(key, 0), RobinRow.NONE);
            checks.due("3: value of new " + key, row.get(key), 0);
            checks.due("3: again " + key, row.put(key, Integer.MAX_VALUE), 0);
            checks.due("3: and again " + key, row.put(key, 5), Integer.MAX_VALUE);
            checks.due("3: value " + key, row.get(key), 5);
        }
        checks.due("3: size", row.size(), keys.length);
    }

    private static void promise3Carrying() {
        checks.due("3: first come stays at a same distance",
                Pictures.keysOf(Rows.plain(1, 9, 17), 0), " . 1=100 9=101 17=102 . . . .");
        checks.due("3: a key with a smaller distance is carried on",
                Pictures.keysOf(Rows.plain(1, 9, 2, 17), 0), " . 1=100 9=101 17=103 2=102 . . .");
        checks.due("3: behind the last slot comes the first",
                Pictures.keysOf(Rows.plain(7, 0, 15), 0), " 15=102 0=101 . . . . . 7=100");
        checks.due("3: the carried key takes another's place in turn",
                Pictures.keysOf(Rows.plain(1, 2, 3, 9), 0), " . 1=100 9=103 2=101 3=102 . . .");
        checks.due("3: a key that has lost its place is carried with its own distance",
                Pictures.keysOf(Rows.plain(1, 9, 2, 10, 17), 0), " . 1=100 9=101 17=104 10=103 2=102 . .");
        checks.due("3: a negative key", Pictures.keysOf(Rows.plain(-1, -9), 0), " -9=101 . . . . . . -1=100");
    }

    private static void promise3Growth() {
        RobinRow row = Rows.counted(7);
        checks.due("3: 7 keys have room in 8 slots", row.slots(0), 8);
        row.put(6, 1);
        checks.due("3: a key that is there begins no move", row.moves(), 0);
        row.put(7, 107);
        checks.due("3: 8 keys have not", row.slots(0), 16);
        checks.due("3: the old table", row.slots(1), 8);
        checks.due("3: a move begins without a slice", row.keysIn(1), 7);
        checks.due("3: a new key goes into the present table", row.keyAt(0, 7), 7);
        for (int key = 8; key < 14; key++) {
            row.put(key, 100 + key);
        }
        checks.due("3: 14 keys have room in 16 slots", row.slots(0), 16);
        checks.due("3: and no move goes on", row.slots(1), 0);
        row.put(14, 114);
        checks.due("3: 15 keys have not", row.slots(0), 32);
        checks.due("3: the second old table", row.slots(1), 16);
    }

    private static void promise3PutDuringMove() {
        RobinRow row = Rows.counted(8);
        checks.due("3: a key of the old table", row.put(6, 60), 106);
        checks.due("3: it stays where it is", Pictures.keysOf(row, 1), " . . . . 4=104 5=105 6=60 .");
        checks.due("3: what the slice took over", Pictures.keysOf(row, 0),
                " 0=100 1=101 2=102 3=103 . . . 7=107 . . . . . . . .");
        checks.due("3: a key that the slice takes over", row.put(5, 50), 105);
        checks.due("3: its value", row.get(5), 50);
        checks.due("3: the move is over", row.slots(1), 0);
        checks.due("3: a key of the present table", row.put(7, 70), 107);
        checks.due("3: size", row.size(), 8);
    }

    private static void promise3WrongValues() {
        for (int value : new int[] {-1, -2, Integer.MIN_VALUE}) {
            RobinRow row = Rows.counted(8);
            checks.thrown(row, "3: put(3, " + value + ")", ARGUMENT, () -> row.put(3, value));
            checks.thrown(row, "3: put(99, " + value + ")", ARGUMENT, () -> row.put(99, value));
        }
        RobinRow atTheEdge = Rows.counted(7);
        checks.thrown(atTheEdge, "3: no move begins", ARGUMENT, () -> atTheEdge.put(99, -1));
    }

    private static void promise3TwoHundredKeys() {
        RobinRow row = Rows.counted(199);
        checks.due("3: the 200th key", row.put(199, 1), RobinRow.NONE);
        checks.due("3: 200 keys", row.size(), 200);
        checks.due("3: 256 slots", row.slots(0), 256);
        checks.thrownUnpictured("3: the 201st key", STATE, () -> row.put(200, 1));
        checks.thrownUnpictured("3: a wrong value comes first", ARGUMENT, () -> row.put(200, -1));
        checks.due("3: it is not there", row.get(200), RobinRow.NONE);
        checks.due("3: still 200 keys", row.size(), 200);
        checks.due("3: still 5 moves", row.moves(), 5);
        checks.due("3: a key that is there", row.put(50, 2), 150);
        checks.due("3: one out", row.remove(0), 100);
        checks.due("3: one in", row.put(200, 3), RobinRow.NONE);
        checks.thrownUnpictured("3: full again", STATE, () -> row.put(0, 1));
    }

    private static void promise4Get() {
        RobinRow row = Rows.counted(8);
        String before = Pictures.of(row);
        for (int key = 0; key < 8; key++) {
            checks.due("4: key " + key, row.get(key), 100 + key);
        }
        for (int key : new int[] {8, 16, -1, 128, Integer.MIN_VALUE, Integer.MAX_VALUE}) {
            checks.due("4: no key " + key, row.get(key), RobinRow.NONE);
        }
        checks.due("4: nothing has changed", Pictures.of(row), before);
    }

    private static void promise5Remove() {
        RobinRow row = Rows.plain(1, 9, 2);
        checks.due("5: not there", row.remove(17), RobinRow.NONE);
        checks.due("5: there", row.remove(9), 101);
        checks.due("5: not any more", row.remove(9), RobinRow.NONE);
        checks.due("5: get", row.get(9), RobinRow.NONE);
        checks.due("5: size", row.size(), 2);
        checks.due("5: put again", row.put(9, 7), RobinRow.NONE);
    }

    private static void promise5ShiftingBack() {
        RobinRow row = Rows.plain(1, 9, 2, 17, 5);
        row.remove(1);
        checks.due("5: keys behind go back", Pictures.keysOf(row, 0), " . 9=101 17=103 2=102 . 5=104 . .");
        row.remove(9);
        checks.due("5: and once more", Pictures.keysOf(row, 0), " . 17=103 2=102 . . 5=104 . .");
        row.remove(17);
        checks.due("5: not a key that is at home", Pictures.keysOf(row, 0), " . . 2=102 . . 5=104 . .");
        RobinRow over = Rows.plain(7, 0, 15, 6);
        over.remove(7);
        checks.due("5: over the last slot", Pictures.keysOf(over, 0), " 0=101 . . . . . 6=103 15=102");
    }

    private static void promise5RemoveDuringMove() {
        RobinRow row = Rows.counted(8);
        checks.due("5: not there", row.remove(99), RobinRow.NONE);
        checks.due("5: yet a slice", row.keysIn(1), 3);
        checks.due("5: taken over first", row.remove(4), 104);
        checks.due("5: the move is over", row.slots(1), 0);
        checks.due("5: left", Pictures.keysOf(row, 0), " 0=100 1=101 2=102 3=103 . 5=105 6=106 7=107 . . . . . . . .");
        RobinRow other = Rows.counted(8);
        checks.due("5: out of the old table", other.remove(6), 106);
        checks.due("5: left in it", Pictures.keysOf(other, 1), " . . . . 4=104 5=105 . .");
        checks.due("5: size", other.size(), 7);
    }

    private static void promise5RemoveEndsMove() {
        RobinRow row = Rows.counted(15);
        row.remove(13);
        row.remove(99);
        checks.due("5: 5 keys are left in the old table", row.keysIn(1), 5);
        checks.due("5: the one that the slice leaves", row.remove(12), 112);
        checks.due("5: the old table is gone", row.slots(1), 0);
        checks.due("5: size", row.size(), 13);
        checks.due("5: get", row.get(12), RobinRow.NONE);
    }

    private static void promise6Move() {
        RobinRow row = Rows.counted(7);
        checks.due("6: no move goes on", row.move(), 0);
        row.put(7, 107);
        checks.due("6: a whole slice", row.move(), 4);
        checks.due("6: the old table", Pictures.keysOf(row, 1), " . . . . 4=104 5=105 6=106 .");
        checks.due("6: the rest", row.move(), 3);
        checks.due("6: the old table is gone", row.slots(1), 0);
        checks.due("6: no move any more", row.move(), 0);
        checks.due("6: all keys", Pictures.keysOf(row, 0),
                " 0=100 1=101 2=102 3=103 4=104 5=105 6=106 7=107 . . . . . . . .");
        checks.due("6: moves", row.moves(), 1);
    }

    private static void promise6SliceTakesLowestSlot() {
        RobinRow row = Rows.plain(0, 8, 16, 24, 32, 40, 48, 56);
        row.move();
        checks.due("6: keys shift back into the slot 0", Pictures.keysOf(row, 1), " 32=104 40=105 48=106 . . . . .");
        checks.due("6: and are carried in as they come", Pictures.keysOf(row, 0),
                " 0=100 16=102 . . . . . . 56=107 8=101 24=103 . . . . .");
        RobinRow over = Rows.plain(7, 15, 23, 2, 3, 4, 5, 6);
        over.move();
        checks.due("6: the slot 0 has the key from the last home", Pictures.keysOf(over, 1),
                " . . . . 4=105 5=106 . 7=100");
    }

    private static void promise7Size() {
        RobinRow row = new RobinRow();
        for (int key = 0; key < 40; key++) {
            checks.due("7: before key " + key, row.size(), key);
            row.put(key * 77, key);
            row.put(key * 77, key);
        }
        for (int key = 0; key < 40; key++) {
            row.remove(key * 77);
            row.remove(key * 77);
            checks.due("7: without key " + key, row.size(), 39 - key);
        }
    }

    private static void promise8Moves() {
        RobinRow row = Rows.plain();
        int[] begins = {8, 15, 29, 57, 113};
        int moves = 0;
        for (int count = 1; count <= 200; count++) {
            row.put(3 * count, count);
            moves += moves < begins.length && count == begins[moves] ? 1 : 0;
            checks.due("8: with " + count + " keys", row.moves(), moves);
        }
        row.clear(RobinRow.MIXED);
        checks.due("8: cleared", row.moves(), 0);
    }
}
