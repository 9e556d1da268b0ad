/**
 * The boundary cases of the promises 1 to 26, in their order; those of the terms are the business of
 * TermsBoundaryTest, refused calls that of RefusedCallsTest.
 */
public final class PromisesBoundaryTest {
    private static final int LEAST = Integer.MIN_VALUE;
    private static final int GREATEST = Integer.MAX_VALUE;
    private static final String EMPTY_EIGHT = " . . . . . . . .";
    private static final String NO_STATE = "throws IllegalStateException";
    private static final String NO_INDEX = "throws IndexOutOfBoundsException";

    private static final Checks checks = new Checks("PromisesBoundaryTest");

    public static void main(String[] args) {
        promise1NewObject();
        promise2ClearedOfAll();
        promise2ClearedAndFilledAgain();
        promise3TwoHundredKeys();
        promise3RoomForOneAgain();
        promise4NoKeys();
        promise5NoKeys();
        promise5AllKeys();
        promise6FromTableToTable();
        promise7FromNoneToTwoHundred();
        promise8MovesThatHaveBegun();
        promise9EachNumber();
        promise10AnswersOfNow();
        promise11TheFirstAndTheLast();
        promise11TwoHundredKeys();
        promise12TheKeyAsItIsNow();
        promise12AmongOtherSweeps();
        promise13FromNoneToAll();
        promise14BothWays();
        promises15And16NoMove();
        promises17To19TheLastSlots();
        promises17To19TheLargestTable();
        promises20And21NoKeys();
        promises20And21ThePresentTableAlone();
        promises22And23NoKeys();
        promise24NoRoom();
        promise24TheOldTable();
        promises25And26Signs();
        promises25And26OverTheLastSlot();
        promises25And26TheSameAsTotal();
        the512thCall();
        checks.close();
    }

    /** All that an object without keys answers; no sweep is open, and none is left open. */
    private static void emptyObject(String what, RobinRow row) {
        checks.due(what + ": slots", Pictures.keysOf(row, 0), EMPTY_EIGHT);
        checks.due(what + ": slots of the present table", row.slots(0), 8);
        checks.due(what + ": slots of the old table", row.slots(1), 0);
        checks.due(what + ": keys in the present table", row.keysIn(0), 0);
        checks.due(what + ": keys in the old table", row.keysIn(1), 0);
        checks.due(what + ": size", row.size(), 0);
        checks.due(what + ": moves", row.moves(), 0);
        checks.due(what + ": move", row.move(), 0);
        checks.due(what + ": get", row.get(0), RobinRow.NONE);
        checks.due(what + ": remove", row.remove(0), RobinRow.NONE);
        checks.due(what + ": longest", row.longest(), RobinRow.NONE);
        checks.due(what + ": total", row.total(), 0);
        checks.due(what + ": plain longest", row.plainLongest(), RobinRow.NONE);
        checks.due(what + ": plain total", row.plainTotal(), 0);
        checks.due(what + ": groups", row.groups(0), 1);
        checks.due(what + ": comparisons", row.comparisons(0), 0);
        checks.due(what + ": displaced", row.displaced(0), 0);
        checks.due(what + ": distance", row.distanceAt(0, 0), RobinRow.NONE);
        for (int sweep = 0; sweep < 4; sweep++) {
            int number = sweep;
            checks.due(what + ": no sweep", Checks.answer(() -> row.closeSweep(number)), NO_INDEX);
        }
        checks.due(what + ": a sweep", row.openSweep(), 0);
        checks.due(what + ": a sweep over nothing", row.hasNext(0), false);
        checks.due(what + ": has met none", Checks.answer(() -> row.removeMet(0)), NO_STATE);
        checks.due(what + ": has met", row.closeSweep(0), 0);
    }

    private static void promise1NewObject() {
        RobinRow row = new RobinRow();
        checks.due("1: the way MIXED", row.hash(LEAST), -2147418112);
        emptyObject("1: new", row);
    }

    private static void promise2ClearedOfAll() {
        for (int way = RobinRow.PLAIN; way <= RobinRow.MIXED; way++) {
            int due = way == RobinRow.PLAIN ? LEAST : -2147418112;
            for (int count : new int[] {0, 7, 8, 113, 200}) {
                RobinRow row = Rows.counted(count);
                for (int sweep = 0; sweep < 4; sweep++) {
                    row.openSweep();
                }
                row.clear(way);
                checks.due("2: way", row.hash(LEAST), due);
                checks.due("2: the slot behind the last", Checks.answer(() -> row.control(0, 8)), NO_INDEX);
                checks.due("2: the old table's first", Checks.answer(() -> row.control(1, 0)), NO_INDEX);
                emptyObject("2: cleared of " + count, row);
            }
        }
    }

    private static void promise2ClearedAndFilledAgain() {
        RobinRow row = Rows.counted(113);
        row.openSweep();
        row.next(0);
        row.clear(RobinRow.PLAIN);
        for (int key = 0; key < 200; key++) {
            checks.due("2: none of the keys before", row.put(key, 1), RobinRow.NONE);
        }
        checks.due("2: full", Checks.answer(() -> row.put(200, 1)), NO_STATE);
        checks.due("2: moves since", row.moves(), 5);
        row.clear(RobinRow.PLAIN);
        row.clear(RobinRow.MIXED);
        emptyObject("2: cleared three times", row);
    }

    private static void promise3TwoHundredKeys() {
        RobinRow row = Rows.counted(199);
        row.openSweep();
        row.next(0);
        checks.due("3: the 200th key", row.put(LEAST, 0), RobinRow.NONE);
        checks.due("3: the 201st key", Checks.answer(() -> row.put(GREATEST, 0)), NO_STATE);
        checks.due("3: one with a value below 0", Checks.answer(() -> row.put(GREATEST, -1)),
                "throws IllegalArgumentException");
        checks.due("3: the first in place of its value", row.put(0, 5), 100);
        checks.due("3: the last in place of its value", row.put(LEAST, GREATEST), 0);
        checks.due("3: size", row.size(), 200);
        checks.due("3: slots", row.slots(0), 256);
        checks.due("3: moves", row.moves(), 5);
        checks.due("3: not there", row.get(GREATEST), RobinRow.NONE);
        checks.due("3: met next", row.next(0), LEAST);
    }

    private static void promise3RoomForOneAgain() {
        RobinRow row = Rows.counted(200);
        row.remove(9999);
        checks.due("3: still no room", Checks.answer(() -> row.put(200, 0)), NO_STATE);
        row.remove(17);
        checks.due("3: room for one", row.put(200, 7), RobinRow.NONE);
        checks.due("3: and no more", Checks.answer(() -> row.put(17, 0)), NO_STATE);
        row.openSweep();
        row.next(0);
        row.removeMet(0);
        checks.due("3: room for one taken out by a sweep", row.put(17, 0), RobinRow.NONE);
        checks.due("3: and no more then", Checks.answer(() -> row.put(0, 0)), NO_STATE);
    }

    private static void promise4NoKeys() {
        RobinRow row = new RobinRow();
        checks.due("4: new", row.get(0), RobinRow.NONE);
        row.put(0, 0);
        checks.due("4: the value 0", row.get(0), 0);
        row.remove(0);
        checks.due("4: the last one gone", row.get(0), RobinRow.NONE);
        RobinRow full = Rows.counted(200);
        checks.due("4: the first of 200", full.get(0), 100);
        checks.due("4: the last of 200", full.get(199), 299);
        checks.due("4: of their homes", full.get(256), RobinRow.NONE);
        checks.due("4: of an empty home", full.get(-1), RobinRow.NONE);
        RobinRow moving = Rows.counted(8);
        checks.due("4: in the old table", moving.get(6), 106);
        checks.due("4: in the present table", moving.get(7), 107);
        checks.due("4: in none", moving.get(8), RobinRow.NONE);
    }

    private static void promise5NoKeys() {
        RobinRow row = new RobinRow();
        checks.due("5: new", row.remove(0), RobinRow.NONE);
        row.put(0, 0);
        checks.due("5: another", row.remove(1), RobinRow.NONE);
        checks.due("5: the value 0", row.remove(0), 0);
        checks.due("5: gone", row.remove(0), RobinRow.NONE);
        emptyObject("5: the only key gone", row);
    }

    private static void promise5AllKeys() {
        RobinRow row = Rows.counted(200);
        for (int key = 199; key >= 0; key--) {
            checks.due("5: value", row.remove(key), 100 + key);
        }
        checks.due("5: size", row.size(), 0);
        checks.due("5: slots stay", row.slots(0), 256);
        checks.due("5: moves stay", row.moves(), 5);
        checks.due("5: longest", row.longest(), RobinRow.NONE);
        checks.due("5: plain longest", row.plainLongest(), RobinRow.NONE);
        checks.due("5: groups", row.groups(0), 1);
        checks.due("5: put again", row.put(0, 1), RobinRow.NONE);
        checks.due("5: no move begins", row.slots(1), 0);
    }

    private static void promise6FromTableToTable() {
        RobinRow row = Rows.plain(7, 15, 23, 31, 39, 47, 55, 63);
        checks.due("6: slots before", Pictures.keysOf(row, 1), " 15=101 23=102 31=103 39=104 47=105 55=106 . 7=100");
        checks.due("6: four times the slot 0, into which a key goes back each time", row.move(), 4);
        checks.due("6: what is left", Pictures.keysOf(row, 1), " 47=105 55=106 . . . . . 7=100");
        checks.due("6: what went over", Pictures.keysOf(row, 0),
                " 15=101 31=103 . . . . . 23=102 39=104 . . . . . . 63=107");
        checks.due("6: twice the slot 0, then the last slot", row.move(), 3);
        checks.due("6: what went over in the end", Pictures.keysOf(row, 0),
                " 15=101 31=103 47=105 . . . . 23=102 39=104 55=106 7=100 . . . . 63=107");
    }

    private static void promise7FromNoneToTwoHundred() {
        RobinRow row = new RobinRow();
        checks.due("7: none", row.size(), 0);
        for (int key = 1; key <= 200; key++) {
            row.put(-key, key);
            checks.due("7: during moves, too", row.size(), key);
        }
        checks.due("7: a refused one", Checks.answer(() -> row.put(0, 1)), NO_STATE);
        checks.due("7: still", row.size(), 200);
    }

    private static void promise8MovesThatHaveBegun() {
        RobinRow row = Rows.counted(7);
        checks.due("8: none", row.moves(), 0);
        row.put(7, 1);
        checks.due("8: one that goes on", row.moves(), 1);
        row.move();
        row.move();
        row.move();
        checks.due("8: one that is over", row.moves(), 1);
        row.clear(RobinRow.PLAIN);
        checks.due("8: cleared", row.moves(), 0);
        for (int key = 0; key < 8; key++) {
            row.put(key, 1);
        }
        checks.due("8: since then", row.moves(), 1);
        row.clear(RobinRow.PLAIN);
        checks.due("8: cleared while one goes on", row.moves(), 0);
    }

    private static void promise9EachNumber() {
        for (int closed = 0; closed < 4; closed++) {
            RobinRow row = Rows.plain(1, 2);
            for (int sweep = 0; sweep < 4; sweep++) {
                row.openSweep();
                row.next(sweep);
                row.next(sweep);
            }
            row.closeSweep(closed);
            checks.due("9: the free number", row.openSweep(), closed);
            checks.due("9: it has met no key", row.next(closed), 2);
            checks.due("9: it has met one", row.closeSweep(closed), 1);
        }
    }

    private static void promise10AnswersOfNow() {
        RobinRow row = Rows.counted(8);
        row.openSweep();
        for (int i = 0; i < 8; i++) {
            checks.due("10: another", row.hasNext(0), true);
            row.next(0);
            row.move();
        }
        checks.due("10: none", row.hasNext(0), false);
        row.put(-1, 1);
        checks.due("10: one came in", row.hasNext(0), true);
        row.remove(-1);
        checks.due("10: it went out", row.hasNext(0), false);
        row.remove(7);
        checks.due("10: the one met last went out", row.hasNext(0), false);
        row.put(7, 1);
        checks.due("10: the one met last came in again", row.hasNext(0), false);
    }

    private static void promise11TheFirstAndTheLast() {
        RobinRow row = Rows.plain(0);
        row.openSweep();
        checks.due("11: the first of all ranks", row.next(0), 0);
        checks.due("11: none behind it", Checks.answer(() -> row.next(0)), NO_STATE);
        row.put(-1, 1);
        checks.due("11: the last of all ranks", row.next(0), -1);
        checks.due("11: none behind that", Checks.answer(() -> row.next(0)), NO_STATE);
        row.remove(-1);
        row.put(-1, 1);
        checks.due("11: though it came in again", Checks.answer(() -> row.next(0)), NO_STATE);
        checks.due("11: calls that met none don't count", row.closeSweep(0), 2);
    }

    private static void promise11TwoHundredKeys() {
        RobinRow row = Rows.counted(200);
        row.openSweep();
        int met = 0;
        for (int rank = 0; rank < 256; rank++) {
            int key = Integer.reverse(rank) >>> 24;
            if (key < 200) {
                checks.due("11: in order", row.next(0), key);
                met++;
            }
        }
        checks.due("11: all", met, 200);
        checks.due("11: the end", Checks.answer(() -> row.next(0)), NO_STATE);
        checks.due("11: met", row.closeSweep(0), 200);
    }

    private static void promise12TheKeyAsItIsNow() {
        RobinRow row = Rows.plain(1, 2);
        row.openSweep();
        row.next(0);
        row.put(2, 9);
        checks.due("12: its value of now", row.removeMet(0), 9);
        row.next(0);
        row.remove(1);
        checks.due("12: the last key is gone", Checks.answer(() -> row.removeMet(0)), NO_STATE);
        row.put(1, 8);
        checks.due("12: it is there again", row.removeMet(0), 8);
        checks.due("12: it was taken out", Checks.answer(() -> row.removeMet(0)), NO_STATE);
        row.put(1, 7);
        checks.due("12: it is there again, but was taken out", Checks.answer(() -> row.removeMet(0)), NO_STATE);
        checks.due("12: at the end, none is met", Checks.answer(() -> row.next(0)), NO_STATE);
        checks.due("12: so it was taken out still", Checks.answer(() -> row.removeMet(0)), NO_STATE);
        checks.due("12: keys met", row.closeSweep(0), 2);
    }

    private static void promise12AmongOtherSweeps() {
        RobinRow row = Rows.plain(4, 2, 1);
        for (int sweep = 0; sweep < 4; sweep++) {
            row.openSweep();
        }
        for (int sweep = 0; sweep < 3; sweep++) {
            row.next(sweep);
        }
        checks.due("12: one of three", row.removeMet(1), 100);
        checks.due("12: gone for another", Checks.answer(() -> row.removeMet(0)), NO_STATE);
        checks.due("12: one that has met none", Checks.answer(() -> row.removeMet(3)), NO_STATE);
        checks.due("12: the others go on", row.next(0), 2);
        checks.due("12: the others go on", row.next(2), 2);
        checks.due("12: and so does that one", row.next(1), 2);
        checks.due("12: the fourth begins", row.next(3), 2);
        checks.due("12: the next one", row.removeMet(3), 101);
        row.put(2, 5);
        checks.due("12: there again for another", row.removeMet(1), 5);
        row.put(2, 6);
        row.closeSweep(2);
        row.openSweep();
        checks.due("12: a new sweep has met none, though that of its number has", Checks.answer(() -> row.removeMet(2)),
                NO_STATE);
        checks.due("12: another has met it still", row.removeMet(0), 6);
    }

    private static void promise13FromNoneToAll() {
        for (int met = 0; met <= 8; met++) {
            RobinRow row = Rows.counted(8);
            row.openSweep();
            for (int i = 0; i < met; i++) {
                row.next(0);
            }
            checks.due("13: met", row.closeSweep(0), met);
            checks.due("13: closed", Checks.answer(() -> row.closeSweep(0)), NO_INDEX);
        }
        RobinRow row = Rows.plain(1);
        row.openSweep();
        row.openSweep();
        for (int i = 0; i < 20; i++) {
            row.next(0);
            row.removeMet(0);
            row.put((4 << i) - 1, 1);
        }
        checks.due("13: more than there are keys", row.closeSweep(0), 20);
        row.clear(RobinRow.PLAIN);
        checks.due("13: closed by clear", Checks.answer(() -> row.closeSweep(1)), NO_INDEX);
    }

    private static void promise14BothWays() {
        RobinRow row = new RobinRow();
        checks.due("14: mixed", row.hash(GREATEST), -506903074);
        checks.due("14: a refused way", Checks.answer(() -> {
            row.clear(2);
            return 0;
        }), "throws IllegalArgumentException");
        checks.due("14: still mixed", row.hash(GREATEST), -506903074);
        row.clear(RobinRow.PLAIN);
        checks.due("14: plain", row.hash(GREATEST), GREATEST);
        checks.due("14: of a key that is not there", row.hash(5), 5);
        row.clear(RobinRow.MIXED);
        checks.due("14: mixed again", row.hash(GREATEST), -506903074);
    }

    private static void promises15And16NoMove() {
        RobinRow row = Rows.plain();
        checks.due("15: no move has begun", row.slots(1), 0);
        checks.due("16: no move has begun", row.keysIn(1), 0);
        checks.due("16: no keys", row.keysIn(0), 0);
        for (int key = 0; key < 7; key++) {
            row.put(key, 1);
        }
        checks.due("15: none yet", row.slots(1), 0);
        row.put(7, 1);
        checks.due("15: one goes on", row.slots(1), 8);
        checks.due("16: one goes on", row.keysIn(1), 7);
        row.clear(RobinRow.PLAIN);
        checks.due("15: cleared", row.slots(1), 0);
        checks.due("16: cleared", row.keysIn(1), 0);
    }

    private static void promises17To19TheLastSlots() {
        RobinRow row = Rows.plain(7, 1, 2, 3, 4, 5, 6, 15);
        checks.due("17: the old table's first slot", row.control(1, 0), -128);
        checks.due("18: the old table's first slot", Checks.answer(() -> row.keyAt(1, 0)), NO_STATE);
        checks.due("19: the old table's first slot", row.distanceAt(1, 0), RobinRow.NONE);
        checks.due("17: the old table's last slot", row.control(1, 7), 0);
        checks.due("18: the old table's last slot", row.keyAt(1, 7), 7);
        checks.due("19: the old table's last slot", row.distanceAt(1, 7), 0);
        checks.due("17: the present table's last slot", row.control(0, 15), 0);
        checks.due("18: the present table's last slot", row.keyAt(0, 15), 15);
        checks.due("19: the present table's last slot", row.distanceAt(0, 15), 0);
        row.remove(15);
        checks.due("17: the last slot, empty", row.control(0, 15), -128);
        checks.due("18: the last slot, empty", Checks.answer(() -> row.keyAt(0, 15)), NO_STATE);
        checks.due("19: the last slot, empty", row.distanceAt(0, 15), RobinRow.NONE);
    }

    private static void promises17To19TheLargestTable() {
        RobinRow row = Rows.counted(198);
        row.put(255, 1);
        row.put(511, 2);
        checks.due("17: the last slot", row.control(0, 255), 0);
        checks.due("18: the last slot", row.keyAt(0, 255), 255);
        checks.due("19: the last slot", row.distanceAt(0, 255), 0);
        checks.due("18: the first slot", row.keyAt(0, 0), 511);
        checks.due("19: the first slot", row.distanceAt(0, 0), 1);
        checks.due("18: the last of the row", row.keyAt(0, 198), 197);
        checks.due("19: the last of the row", row.distanceAt(0, 198), 1);
        checks.due("17: behind the row", row.control(0, 199), -128);
        checks.due("17: no such slot", Checks.answer(() -> row.control(0, 256)), NO_INDEX);
        checks.due("18: no such slot", Checks.answer(() -> row.keyAt(0, 256)), NO_INDEX);
        checks.due("19: no such slot", Checks.answer(() -> row.distanceAt(0, 256)), NO_INDEX);
        checks.due("20: longest", row.longest(), 1);
        checks.due("21: total", row.total(), 199);
        checks.due("25: by rising keys, 511 goes behind the row", row.plainTotal(), 199);
        checks.due("26: by rising keys, 511 goes behind the row", row.plainLongest(), 199);
        row.remove(255);
        checks.due("18: back into the last slot", row.keyAt(0, 255), 511);
        checks.due("21: all at home", row.total(), 0);
        checks.due("20: all at home", row.longest(), 0);
    }

    private static void promises20And21NoKeys() {
        RobinRow row = Rows.plain();
        checks.due("20: none", row.longest(), RobinRow.NONE);
        checks.due("21: none", row.total(), 0);
        row.put(3, 1);
        checks.due("20: one at home", row.longest(), 0);
        checks.due("21: one at home", row.total(), 0);
        row.put(11, 1);
        checks.due("20: one beside it", row.longest(), 1);
        checks.due("21: one beside it", row.total(), 1);
        row.remove(3);
        checks.due("20: gone home", row.longest(), 0);
        row.remove(11);
        checks.due("20: none again", row.longest(), RobinRow.NONE);
        checks.due("21: none again", row.total(), 0);
    }

    private static void promises20And21ThePresentTableAlone() {
        RobinRow row = Rows.plain(7, 15, 23, 31, 39, 47, 55, 63);
        checks.due("20: its only key is at home", row.longest(), 0);
        checks.due("21: its only key is at home", row.total(), 0);
        row.move();
        checks.due("20: behind a slice, over the last slot", row.longest(), 2);
        checks.due("21: behind a slice, over the last slot", row.total(), 0 + 1 + 2 + 0 + 1);
        row.move();
        checks.due("20: behind the move", row.longest(), 3);
        checks.due("21: behind the move", row.total(), 2 * (0 + 1 + 2 + 3));
    }

    private static void promises22And23NoKeys() {
        RobinRow row = Rows.plain();
        for (int key : new int[] {0, 7, -1, LEAST, GREATEST}) {
            checks.due("22: no keys", row.groups(key), 1);
            checks.due("23: no keys", row.comparisons(key), 0);
        }
        row.put(0, 1);
        checks.due("22: one", row.groups(0), 1);
        checks.due("23: one", row.comparisons(0), 1);
        checks.due("23: another of its tag, from the slot 1 on", row.comparisons(1), 1);
        checks.due("23: another tag", row.comparisons(-1), 0);
        row.remove(0);
        checks.due("23: taken out", row.comparisons(0), 0);
    }

    private static void promise24NoRoom() {
        RobinRow row = Rows.counted(200);
        checks.due("24: put would be refused", row.displaced(256), 199);
        checks.due("24: the home behind the row", row.displaced(200), 0);
        checks.due("24: the last of the row", row.displaced(199 + 256), 0);
        checks.due("24: the last but one of the row", row.displaced(198 + 256), 1);
        checks.due("24: no key came in", row.size(), 200);
        checks.due("24: one that is there", Checks.answer(() -> row.displaced(0)), NO_STATE);
        row.remove(0);
        checks.due("24: its empty home", row.displaced(0), 0);
        RobinRow edge = Rows.plain(7, 0, 1, 2, 3, 4, 5);
        checks.due("24: put would begin a move", edge.displaced(15), 6);
        checks.due("24: over the last slot, by the same home", edge.displaced(8), 5);
        checks.due("24: no move began", edge.moves(), 0);
    }

    private static void promise24TheOldTable() {
        RobinRow row = Rows.plain(0, 1, 2, 3, 4, 5, 6, 22);
        checks.due("24: a key of the old table is not in the present one", row.displaced(6), 0);
        checks.due("24: nor is one that a slice would take over", row.displaced(0), 0);
        checks.due("24: no slice", row.keysIn(1), 7);
        row.move();
        checks.due("24: one that a slice took over", Checks.answer(() -> row.displaced(0)), NO_STATE);
        checks.due("24: one that is left", row.displaced(4), 0);
    }

    private static void promises25And26Signs() {
        RobinRow row = Rows.plain(1, 9, LEAST + 1);
        checks.due("25: the negative one first, then 1, then 9", row.plainTotal(), 3);
        checks.due("26: 9 is two behind", row.plainLongest(), 2);
        RobinRow middle = Rows.plain(16, 8, 9);
        checks.due("25: 8 0, 9 0, 16 2", middle.plainTotal(), 2);
        checks.due("26: 8 0, 9 0, 16 2", middle.plainLongest(), 2);
        // the order is seen where homes differ: rising, -8 and -16 come before 0 and 1
        RobinRow signs = Rows.plain(0, 1, -8, -16);
        checks.due("25: -16 0, -8 1, 0 2, 1 2", signs.plainTotal(), 5);
        checks.due("26: -16 0, -8 1, 0 2, 1 2", signs.plainLongest(), 2);
        // falling, or without signs, 8 would come before -7, which then is one behind its home
        RobinRow edges = Rows.plain(8, 16, -7);
        checks.due("25: -7 0, 8 0, 16 2", edges.plainTotal(), 2);
        checks.due("26: -7 0, 8 0, 16 2", edges.plainLongest(), 2);
        RobinRow extremes = Rows.plain(GREATEST, LEAST, -1, 7, 8);
        checks.due("25: least 0, -1 0, 7 2, 8 2, greatest 4", extremes.plainTotal(), 8);
        checks.due("26: least 0, -1 0, 7 2, 8 2, greatest 4", extremes.plainLongest(), 4);
    }

    private static void promises25And26OverTheLastSlot() {
        RobinRow row = Rows.plain(7, 15, 23, 31, 39, 47, 55);
        checks.due("25: seven of one home", row.plainTotal(), 21);
        checks.due("26: seven of one home", row.plainLongest(), 6);
        RobinRow one = Rows.plain(7);
        checks.due("25: one", one.plainTotal(), 0);
        checks.due("26: one", one.plainLongest(), 0);
        one.remove(7);
        checks.due("25: none", one.plainTotal(), 0);
        checks.due("26: none", one.plainLongest(), RobinRow.NONE);
    }

    /** Whoever gives way to whom, a row of slots is filled by the same homes: only the longest differs. */
    private static void promises25And26TheSameAsTotal() {
        for (int count = 1; count <= 200; count++) {
            RobinRow row = new RobinRow();
            for (int key = 0; key < count; key++) {
                row.put(key * key - 50 * key, key);
            }
            while (row.move() > 0) {
                checks.due("present", row.keysIn(1) < count, true);
            }
            checks.due("25: as many as by Robin Hood, with " + count, row.plainTotal(), row.total());
            checks.due("26: not less than by Robin Hood, with " + count, row.plainLongest() >= row.longest(), true);
        }
    }

    private static void the512thCall() {
        RobinRow row = new RobinRow();
        for (int call = 1; call <= 200; call++) {
            row.put(call, call);
        }
        for (int call = 201; call <= 310; call++) {
            row.remove(call - 200);
        }
        for (int call = 311; call <= 510; call++) {
            row.put(call > 420 ? 200 : call, 1);
        }
        checks.due("the 511th call", Checks.answer(() -> row.put(0, 1)), NO_STATE);
        checks.due("the 512th call", row.size(), 200);
    }
}
