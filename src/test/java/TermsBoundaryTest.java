/**
 * The boundary cases of the document's terms, in its order: hashes, tables, carrying in and taking
 * out, control bytes, searches, growth, slices and sweeps. Each check stands for the sentence that
 * its method is named by. (What a refused call leaves is the business of RefusedCallsTest.)
 */
public final class TermsBoundaryTest {
    private static final int LEAST = Integer.MIN_VALUE;
    private static final int GREATEST = Integer.MAX_VALUE;
    private static final int[] ANY_KEYS = {LEAST, LEAST + 1, -1, 0, 1, GREATEST - 1, GREATEST};
    private static final int NO_KEY = 12345;
    /** 200 of these all have their home in the slot 250 of 256, and the tag 0. */
    private static final int CROWD_HOME = 250;

    private static final Checks checks = new Checks("TermsBoundaryTest");

    public static void main(String[] args) {
        aKeyIsAnyInt();
        aValueIsZeroOrMore();
        hashesWrapAround();
        tablesHaveEightSlotsOrTwiceAsMany();
        behindTheLastSlotComesTheFirst();
        homesOfNegativeHashes();
        theGreatestDistance();
        aKeyWithTheSameDistanceIsPassed();
        carriedOnOverTheLastSlot();
        carriedOnByAllOthers();
        carriedOnWithItsOwnDistance();
        takenOutWithNoneBehind();
        takenOutBeforeAKeyAtHome();
        takenOutBeforeAnEmptySlot();
        takenOutOverTheLastSlot();
        tagsFromLeastToGreatest();
        controlOfSlotsThatBecameEmpty();
        aGroupOfTheWholeTable();
        theLastOfAGroupAndTheFirstOfTheNext();
        groupsOverTheLastSlot();
        comparedUntilFound();
        comparedBehindAnEmptySlot();
        manyGroups();
        theOldTableIsLookedAtOnlyIfNeeded();
        sevenOfEightSlots();
        atTheEdgeWithoutANewKey();
        newValuesWhereTheKeyIs();
        aSliceOfFourAndTheRest();
        aSliceOfExactlyTheLastFour();
        aSliceOfTheLastKey();
        slicesOfOtherCalls();
        theLastOldKeyIsTakenOut();
        theLastOldKeyIsTakenOutByASweep();
        atMostFourSweeps();
        theFirstAndTheLastOfAllRanks();
        keysRightBeforeAndBehindASweep();
        checks.close();
    }

    // ---- hashes

    private static void aKeyIsAnyInt() {
        for (int way = RobinRow.PLAIN; way <= RobinRow.MIXED; way++) {
            RobinRow row = new RobinRow();
            row.clear(way);
            for (int key : ANY_KEYS) {
                checks.due("get, before", row.get(key), RobinRow.NONE);
                checks.due("put", row.put(key, 3), RobinRow.NONE);
                checks.due("get", row.get(key), 3);
                checks.due("groups", row.groups(key), 1);
                int asked = key;
                checks.due("displaced", Checks.answer(() -> row.displaced(asked)), "throws IllegalStateException");
            }
            row.openSweep();
            int[] order = way == RobinRow.PLAIN
                    ? new int[] {0, LEAST, GREATEST - 1, 1, LEAST + 1, GREATEST, -1}
                    : new int[] {0, LEAST, GREATEST - 1, -1, GREATEST, 1, LEAST + 1};
            for (int key : order) {
                checks.due("sweep of the way " + way, row.next(0), key);
            }
            checks.due("the end of the sweep", row.hasNext(0), false);
            for (int key : ANY_KEYS) {
                checks.due("remove", row.remove(key), 3);
                checks.due("remove again", row.remove(key), RobinRow.NONE);
            }
            checks.due("none left", Pictures.keysOf(row, 0), " . . . . . . . .");
        }
    }

    private static void aValueIsZeroOrMore() {
        RobinRow row = Rows.plain();
        checks.due("the least value", row.put(1, 0), RobinRow.NONE);
        checks.due("it is not taken for none", row.get(1), 0);
        checks.due("the greatest value in its place", row.put(1, GREATEST), 0);
        checks.due("the least again", row.put(1, 0), GREATEST);
        checks.due("a value below", Checks.answer(() -> row.put(1, -1)), "throws IllegalArgumentException");
        checks.due("taken out", row.remove(1), 0);
        checks.due("none", row.get(1), RobinRow.NONE);
        row.put(1, 0);
        row.openSweep();
        row.next(0);
        checks.due("taken out by a sweep", row.removeMet(0), 0);
    }

    private static void hashesWrapAround() {
        int[] keys = {0, 1, 2, 3, -1, -2, GREATEST, LEAST, LEAST + 1, GREATEST - 1, 1 << 16, 1 << 30};
        int[] mixed = {0, -1640610337, 1013877695, -626534305, 1640515038, -1013937220, -506903074, -2147418112,
            506938847, 1133611964, 2041705314, 1073774592};
        RobinRow row = new RobinRow();
        for (int i = 0; i < keys.length; i++) {
            checks.due("mixed " + keys[i], row.hash(keys[i]), mixed[i]);
        }
        row.clear(RobinRow.PLAIN);
        for (int key : keys) {
            checks.due("plain " + key, row.hash(key), key);
        }
    }

    // ---- tables

    private static void tablesHaveEightSlotsOrTwiceAsMany() {
        int[] sizes = {8, 16, 32, 64, 128, 256};
        int[] mostKeys = {7, 14, 28, 56, 112, 200};
        RobinRow row = Rows.plain();
        int size = 0;
        for (int count = 1; count <= 200; count++) {
            row.put(count, count);
            size += count > mostKeys[size] ? 1 : 0;
            checks.due("slots with " + count + " keys", row.slots(0), sizes[size]);
        }
    }

    /** A table of so many slots without a move; its keys are 2 and the ints behind it, at their homes. */
    private static RobinRow grown(int slots) {
        RobinRow row = Rows.plain();
        int count = slots == 8 ? 0 : 7 * slots / 16 + 1;
        for (int i = 0; i < count; i++) {
            row.put(2 + i, 1);
        }
        while (row.move() > 0) {
            checks.due("slots", row.slots(0), slots);
        }
        return row;
    }

    private static void behindTheLastSlotComesTheFirst() {
        for (int slots = 8; slots <= 256; slots *= 2) {
            RobinRow row = grown(slots);
            int last = slots - 1;
            row.put(last, 7);
            row.put(last + slots, 8);
            String where = " of " + slots + " slots";
            checks.due("longest, in the first" + where, row.longest(), 1);
            row.put(last + 2 * slots, 9);
            checks.due("slots", row.slots(0), slots);
            checks.due("the last" + where, row.keyAt(0, last), last);
            checks.due("the first" + where, row.keyAt(0, 0), last + slots);
            checks.due("the second" + where, row.keyAt(0, 1), last + 2 * slots);
            checks.due("distance in the last" + where, row.distanceAt(0, last), 0);
            checks.due("distance in the first" + where, row.distanceAt(0, 0), 1);
            checks.due("distance in the second" + where, row.distanceAt(0, 1), 2);
            checks.due("longest" + where, row.longest(), 2);
            checks.due("total" + where, row.total(), 3);
            checks.due("plain longest" + where, row.plainLongest(), 2);
            checks.due("plain total" + where, row.plainTotal(), 3);
            checks.due("comparisons" + where, row.comparisons(last + 2 * slots), 3);
            checks.due("value" + where, row.get(last + 2 * slots), 9);
            checks.due("taken out of the last" + where, row.remove(last), 7);
            checks.due("gone back into the last" + where, row.keyAt(0, last), last + slots);
            checks.due("gone back into the first" + where, row.keyAt(0, 0), last + 2 * slots);
            checks.due("empty is the second" + where, row.control(0, 1), -128);
            checks.due("values go with the keys" + where, row.get(last + slots), 8);
        }
    }

    private static void homesOfNegativeHashes() {
        int[] keys = {-1, -8, -7, LEAST + 2, GREATEST - 1, -4};
        int[] homes = {7, 0, 1, 2, 6, 4};
        RobinRow row = Rows.plain(keys);
        for (int i = 0; i < keys.length; i++) {
            checks.due("home of " + keys[i], row.keyAt(0, homes[i]), keys[i]);
            checks.due("distance of " + keys[i], row.distanceAt(0, homes[i]), 0);
        }
        row.put(LEAST, 1);
        checks.due("the least int comes to -8's home", Pictures.keysOf(row, 0),
                " -8=101 " + LEAST + "=1 -7=102 " + (LEAST + 2) + "=103 -4=105 . " + (GREATEST - 1) + "=104 -1=100");
    }

    private static void theGreatestDistance() {
        RobinRow row = Rows.plain(7, 15, 23, 31, 39, 47, 55);
        for (int distance = 0; distance < 7; distance++) {
            checks.due("distance", row.distanceAt(0, (7 + distance) % 8), distance);
        }
        checks.due("the one empty slot", row.distanceAt(0, 6), RobinRow.NONE);
        checks.due("longest", row.longest(), 6);
        checks.due("total", row.total(), 21);
    }

    // ---- carrying in

    private static void aKeyWithTheSameDistanceIsPassed() {
        checks.due("at home", Pictures.keysOf(Rows.plain(3, 11), 0), " . . . 3=100 11=101 . . .");
        checks.due("behind it", Pictures.keysOf(Rows.plain(3, 4, 11, 12), 0), " . . . 3=100 11=102 4=101 12=103 .");
        checks.due("one less gives way", Pictures.keysOf(Rows.plain(3, 4, 11), 0), " . . . 3=100 11=102 4=101 . .");
    }

    private static void carriedOnOverTheLastSlot() {
        checks.due("in the last slot", Pictures.keysOf(Rows.plain(6, 7, 14), 0), " 7=101 . . . . . 6=100 14=102");
        checks.due("in the first slot", Pictures.keysOf(Rows.plain(7, 0, 15), 0), " 15=102 0=101 . . . . . 7=100");
        checks.due("in both", Pictures.keysOf(Rows.plain(6, 7, 0, 14), 0), " 7=101 0=102 . . . . 6=100 14=103");
    }

    private static void carriedOnByAllOthers() {
        RobinRow row = Rows.plain(2, 3, 4, 5, 6, 7);
        checks.due("displaced", row.displaced(10), 5);
        row.put(10, 106);
        checks.due("carried", Pictures.keysOf(row, 0), " 7=105 . 2=100 10=106 3=101 4=102 5=103 6=104");
        checks.due("displaced by a home behind", row.displaced(11), 4);
        checks.due("displaced by the same home", row.displaced(18), 5);
        checks.due("displaced by the empty slot's home", row.displaced(9), 0);
    }

    private static void carriedOnWithItsOwnDistance() {
        RobinRow row = Rows.plain(1, 9, 2, 10);
        checks.due("before", Pictures.keysOf(row, 0), " . 1=100 9=101 2=102 10=103 . . .");
        checks.due("displaced", row.displaced(17), 1);
        row.put(17, 104);
        checks.due("2 gives way, but 10 doesn't give way to 2", Pictures.keysOf(row, 0),
                " . 1=100 9=101 17=104 10=103 2=102 . .");
    }

    // ---- taking out

    private static void takenOutWithNoneBehind() {
        for (int key = 0; key < 8; key++) {
            RobinRow row = Rows.plain(key);
            checks.due("the only key", row.remove(key), 100);
            checks.due("an empty table", Pictures.keysOf(row, 0), " . . . . . . . .");
            checks.due("of no keys", row.keysIn(0), 0);
        }
    }

    private static void takenOutBeforeAKeyAtHome() {
        RobinRow row = Rows.counted(7);
        row.remove(3);
        checks.due("in the middle", Pictures.keysOf(row, 0), " 0=100 1=101 2=102 . 4=104 5=105 6=106 .");
        RobinRow over = Rows.plain(7, 0, 1);
        over.remove(7);
        checks.due("over the last slot", Pictures.keysOf(over, 0), " 0=101 1=102 . . . . . .");
    }

    private static void takenOutBeforeAnEmptySlot() {
        RobinRow row = Rows.plain(1, 9, 4, 12);
        row.remove(1);
        checks.due("not over the gap", Pictures.keysOf(row, 0), " . 9=101 . . 4=102 12=103 . .");
        RobinRow last = Rows.plain(1, 9, 4, 12);
        last.remove(9);
        checks.due("the last of a row", Pictures.keysOf(last, 0), " . 1=100 . . 4=102 12=103 . .");
    }

    private static void takenOutOverTheLastSlot() {
        RobinRow row = Rows.plain(2, 3, 4, 5, 6, 7, 10);
        checks.due("the first of a whole row", row.remove(2), 100);
        checks.due("all of it goes back", Pictures.keysOf(row, 0), " . . 10=106 3=101 4=102 5=103 6=104 7=105");
        RobinRow crowd = Rows.plain(7, 15, 23, 31, 39, 47, 55);
        crowd.remove(7);
        checks.due("a crowd goes back", Pictures.keysOf(crowd, 0), " 23=102 31=103 39=104 47=105 55=106 . . 15=101");
        crowd.remove(55);
        checks.due("its last one", Pictures.keysOf(crowd, 0), " 23=102 31=103 39=104 47=105 . . . 15=101");
    }

    // ---- control bytes

    private static void tagsFromLeastToGreatest() {
        int[] keys = {0, (1 << 25) - 7, (1 << 25) + 2, (GREATEST & ~7) + 3, LEAST + 4, -3, -2};
        int[] tags = {0, 0, 1, 63, 64, 127, 127};
        RobinRow row = Rows.plain(keys);
        for (int slot = 0; slot < keys.length; slot++) {
            checks.due("tag of " + keys[slot], row.control(0, slot), tags[slot]);
        }
        checks.due("an empty slot", row.control(0, 7), -128);
        for (int slot = 0; slot < 8; slot++) {
            checks.due("a new table's slot", new RobinRow().control(0, slot), -128);
        }
    }

    private static void controlOfSlotsThatBecameEmpty() {
        RobinRow row = Rows.plain(-1, -9, 3);
        row.remove(3);
        checks.due("by a key taken out", row.control(0, 3), -128);
        row.remove(-1);
        checks.due("by a key gone back", row.control(0, 0), -128);
        checks.due("where it went back", row.control(0, 7), 127);
        row.clear(RobinRow.PLAIN);
        checks.due("by clear", row.control(0, 7), -128);
        RobinRow moving = Rows.counted(8);
        moving.move();
        for (int slot = 0; slot < 8; slot++) {
            checks.due("by a slice", moving.control(1, slot), slot >= 4 && slot < 7 ? 0 : -128);
        }
    }

    // ---- searches

    private static void aGroupOfTheWholeTable() {
        RobinRow row = Rows.plain(0, 8, 16, 24, 32, 40, 48);
        for (int home = 0; home < 8; home++) {
            checks.due("groups", row.groups(56 + home), 1);
            checks.due("comparisons", row.comparisons(56 + home), 7);
        }
        checks.due("no keys, groups", Rows.plain().groups(0), 1);
        checks.due("no keys, comparisons", Rows.plain().comparisons(0), 0);
    }

    private static void theLastOfAGroupAndTheFirstOfTheNext() {
        RobinRow row = Rows.plain(0, 16, 32, 48, 64, 80, 96, 112, 128);
        row.move();
        row.move();
        checks.due("nine keys from slot 0 on", row.keysIn(0), 9);
        for (int slot = 0; slot < 9; slot++) {
            int key = row.keyAt(0, slot);
            checks.due("groups for the slot " + slot, row.groups(key), slot < 8 ? 1 : 2);
            checks.due("comparisons for the slot " + slot, row.comparisons(key), slot + 1);
        }
        checks.due("eight keys, none found", row.groups(144), 2);
        checks.due("nine compared", row.comparisons(144), 9);
        int last = row.keyAt(0, 8);
        row.remove(last);
        checks.due("an empty slot as the first of the second group", row.groups(144), 2);
        row.remove(row.keyAt(0, 7));
        checks.due("an empty slot as the last of the first group", row.groups(144), 1);
        checks.due("seven compared", row.comparisons(144), 7);
    }

    private static void groupsOverTheLastSlot() {
        RobinRow row = Rows.plain(12, 28, 44, 60, 76, 92, 108, 124, 140);
        row.move();
        row.move();
        checks.due("nine keys from slot 12 on", row.keysIn(0), 9);
        for (int i = 0; i < 9; i++) {
            int key = row.keyAt(0, (12 + i) % 16);
            checks.due("groups for the slot " + (12 + i) % 16, row.groups(key), i < 8 ? 1 : 2);
            checks.due("comparisons for the slot " + (12 + i) % 16, row.comparisons(key), i + 1);
        }
        checks.due("none found", row.groups(156), 2);
        checks.due("nine compared", row.comparisons(156), 9);
    }

    private static void comparedUntilFound() {
        int tag = 1 << 25;
        RobinRow row = Rows.plain(tag, 8, tag + 16, 24, tag + 32);
        checks.due("the first of its tag", row.comparisons(tag), 1);
        checks.due("the second of its tag", row.comparisons(tag + 16), 2);
        checks.due("the third of its tag", row.comparisons(tag + 32), 3);
        checks.due("the first of the other tag", row.comparisons(8), 1);
        checks.due("the second of the other tag", row.comparisons(24), 2);
        checks.due("none, of three", row.comparisons(tag + 40), 3);
        checks.due("none, of two", row.comparisons(40), 2);
        checks.due("none, of no tag", row.comparisons(2 * tag), 0);
    }

    private static void comparedBehindAnEmptySlot() {
        RobinRow row = Rows.plain(1, 3, 5);
        checks.due("none found, the home empty", row.comparisons(8), 3);
        checks.due("none found, one behind the home", row.comparisons(9), 3);
        checks.due("found before the empty slot", row.comparisons(1), 1);
        checks.due("groups", row.groups(8), 1);
    }

    private static RobinRow crowd(int count) {
        RobinRow row = Rows.plain();
        for (int i = 0; i < count; i++) {
            row.put(CROWD_HOME + 256 * i, i);
        }
        return row;
    }

    private static void manyGroups() {
        RobinRow row = crowd(200);
        checks.due("no move", row.slots(1), 0);
        for (int distance : new int[] {0, 5, 6, 7, 8, 15, 16, 191, 192, 198, 199}) {
            int key = row.keyAt(0, (CROWD_HOME + distance) % 256);
            checks.due("groups at the distance " + distance, row.groups(key), distance / 8 + 1);
            checks.due("comparisons at the distance " + distance, row.comparisons(key), distance + 1);
        }
        int absent = CROWD_HOME + 256 * 200;
        checks.due("25 groups of keys, and one with an empty slot", row.groups(absent), 26);
        checks.due("comparisons", row.comparisons(absent), 200);
        checks.due("displaced by a key of their home", row.displaced(absent), 0);
        checks.due("longest", row.longest(), 199);
        checks.due("total", row.total(), 19900);
        checks.due("plain longest", row.plainLongest(), 199);
        checks.due("plain total", row.plainTotal(), 19900);
        checks.due("behind the crowd", row.control(0, (CROWD_HOME + 200) % 256), -128);
        row.remove(row.keyAt(0, (CROWD_HOME + 199) % 256));
        checks.due("an empty slot as the last of 25 groups", row.groups(absent), 25);
    }

    private static void theOldTableIsLookedAtOnlyIfNeeded() {
        RobinRow row = Rows.counted(8);
        checks.due("found in the present table, groups", row.groups(7), 1);
        checks.due("found in the present table, comparisons", row.comparisons(7), 1);
        checks.due("found in the old table, groups", row.groups(6), 2);
        checks.due("found in the old table, comparisons", row.comparisons(6), 2);
        checks.due("found in none, groups", row.groups(NO_KEY * 16), 2);
        checks.due("found in none, comparisons", row.comparisons(NO_KEY * 16), 8);
        row.move();
        row.move();
        checks.due("no old table any more, groups", row.groups(NO_KEY * 16 + 8), 1);
        checks.due("no old table any more, comparisons", row.comparisons(NO_KEY * 16 + 8), 0);
    }

    // ---- growth

    private static void sevenOfEightSlots() {
        int[] slots = {8, 16, 32, 64, 128};
        RobinRow row = Rows.plain();
        int count = 0;
        for (int size = 0; size < slots.length; size++) {
            while (count < 7 * slots[size] / 8) {
                row.put(++count, 1);
                checks.due("moves with " + count + " keys", row.moves(), size);
            }
            checks.due("slots of the full table", row.slots(0), slots[size]);
            checks.due("the last move is over", row.slots(1), 0);
            row.put(++count, 1);
            checks.due("moves with one more", row.moves(), size + 1);
            checks.due("slots with one more", row.slots(0), 2 * slots[size]);
            checks.due("old slots with one more", row.slots(1), slots[size]);
            checks.due("keys in the present table", row.keysIn(0), 1);
            checks.due("keys in the old table", row.keysIn(1), count - 1);
        }
    }

    private static void atTheEdgeWithoutANewKey() {
        RobinRow row = Rows.counted(7);
        row.put(0, 1);
        row.put(6, 1);
        row.get(7);
        row.remove(7);
        row.displaced(7);
        checks.due("a refused key", Checks.answer(() -> row.put(7, -1)), "throws IllegalArgumentException");
        checks.due("no move", row.moves(), 0);
        row.remove(0);
        row.put(7, 1);
        checks.due("seven again", row.size(), 7);
        checks.due("no move yet", row.moves(), 0);
        row.put(0, 1);
        checks.due("eight", row.moves(), 1);
    }

    private static void newValuesWhereTheKeyIs() {
        RobinRow row = Rows.counted(15);
        checks.due("14 old keys", row.keysIn(1), 14);
        checks.due("in the old table", row.put(13, 50), 113);
        checks.due("still in the old table", row.keyAt(1, 13), 13);
        checks.due("in the present table", row.put(14, 51), 114);
        checks.due("both tables", row.keysIn(0) + row.keysIn(1), 15);
        checks.due("two slices", row.keysIn(1), 6);
        checks.due("the old key's value", row.get(13), 50);
        checks.due("the present key's value", row.get(14), 51);
        row.move();
        row.move();
        checks.due("the value goes over", row.get(13), 50);
    }

    // ---- slices

    private static void aSliceOfFourAndTheRest() {
        int[] keys = {7, 14};
        int[] rests = {3, 2};
        for (int i = 0; i < keys.length; i++) {
            RobinRow row = Rows.counted(keys[i] + 1);
            int left = keys[i];
            while (left > 4) {
                checks.due("a slice", row.move(), 4);
                left -= 4;
                checks.due("left", row.keysIn(1), left);
                checks.due("the old table is there", row.slots(1), row.slots(0) / 2);
            }
            checks.due("the rest", row.move(), rests[i]);
            checks.due("the old table is gone", row.slots(1), 0);
            checks.due("no move goes on", row.move(), 0);
        }
    }

    private static void aSliceOfExactlyTheLastFour() {
        RobinRow row = Rows.counted(29);
        for (int slice = 1; slice <= 7; slice++) {
            checks.due("the old table is there", row.slots(1), 16 * 2);
            checks.due("a slice", row.move(), 4);
            checks.due("left", row.keysIn(1), 28 - 4 * slice);
        }
        checks.due("the old table is gone at once", row.slots(1), 0);
        checks.due("no move goes on", row.move(), 0);
        checks.due("all keys", row.keysIn(0), 29);
    }

    private static void aSliceOfTheLastKey() {
        RobinRow row = Rows.counted(15);
        row.remove(13); // a slice of 4, and one of the old table's: 9 are left
        row.move();
        checks.due("five left", row.keysIn(1), 5);
        row.move();
        checks.due("one left", row.keysIn(1), 1);
        checks.due("the old table is there", row.slots(1), 16);
        checks.due("the last one", row.move(), 1);
        checks.due("the old table is gone", row.slots(1), 0);
    }

    private static void slicesOfOtherCalls() {
        RobinRow row = Rows.counted(29);
        row.get(0);
        row.openSweep();
        row.next(0);
        row.hasNext(0);
        row.groups(NO_KEY);
        checks.due("none of calls that only look", row.keysIn(1), 28);
        row.remove(NO_KEY);
        checks.due("one of remove, though nothing is there", row.keysIn(1), 24);
        row.put(28, 1);
        checks.due("one of put, though the key is there", row.keysIn(1), 20);
        row.put(NO_KEY, 1);
        checks.due("one of put", row.keysIn(1), 16);
        checks.due("one of removeMet", row.removeMet(0), 100);
        checks.due("left behind it", row.keysIn(1), 12);
        RobinRow over = Rows.counted(8);
        over.move();
        over.put(NO_KEY, 1);
        checks.due("a put with which the move is over", over.slots(1), 0);
        checks.due("and which takes its key in", over.keysIn(0), 9);
    }

    private static void theLastOldKeyIsTakenOut() {
        RobinRow row = Rows.counted(15);
        row.remove(13);
        row.move();
        checks.due("a slice and the last one", row.remove(12), 112);
        checks.due("the old table is gone", row.slots(1), 0);
        checks.due("no keys in it", row.keysIn(1), 0);
        checks.due("no move goes on", row.move(), 0);
        checks.due("moves", row.moves(), 1 + 1);
    }

    private static void theLastOldKeyIsTakenOutByASweep() {
        RobinRow row = Rows.counted(15);
        row.remove(13);
        row.move();
        row.openSweep();
        while (row.next(0) != 12) {
            checks.due("five left", row.keysIn(1), 5);
        }
        checks.due("a slice and the last one", row.removeMet(0), 112);
        checks.due("the old table is gone", row.slots(1), 0);
        checks.due("keys", row.keysIn(0), 13);
    }

    // ---- sweeps

    private static void atMostFourSweeps() {
        RobinRow row = Rows.plain(1);
        for (int sweep = 0; sweep < 4; sweep++) {
            checks.due("opened", row.openSweep(), sweep);
        }
        checks.due("a fifth", Checks.answer(row::openSweep), "throws IllegalStateException");
        for (int sweep = 3; sweep >= 0; sweep--) {
            row.closeSweep(sweep);
            checks.due("the one that is free", row.openSweep(), sweep);
        }
        checks.due("a fifth again", Checks.answer(row::openSweep), "throws IllegalStateException");
        row.closeSweep(3);
        row.closeSweep(0);
        row.closeSweep(2);
        for (int sweep : new int[] {0, 2, 3}) {
            checks.due("the lowest of the free", row.openSweep(), sweep);
        }
    }

    private static void theFirstAndTheLastOfAllRanks() {
        int[] order = {0, LEAST, 1 << 30, 4, GREATEST - 1, -2, 1, LEAST + 1, GREATEST, -1};
        RobinRow row = Rows.plain(-1, GREATEST, 1, -2, 0, 4, LEAST + 1, 1 << 30, GREATEST - 1, LEAST);
        row.openSweep();
        for (int key : order) {
            checks.due("another", row.hasNext(0), true);
            checks.due("in order", row.next(0), key);
        }
        checks.due("none behind -1", row.hasNext(0), false);
        row.openSweep();
        row.remove(-1);
        row.remove(0);
        checks.due("the first is now", row.next(1), LEAST);
        row.put(0, 1);
        checks.due("0 is behind no key", row.next(1), 1 << 30);
        row.put(-1, 1);
        checks.due("-1 was met", row.hasNext(0), false);
    }

    private static void keysRightBeforeAndBehindASweep() {
        RobinRow row = Rows.plain(0, 1, -1);
        row.openSweep();
        row.next(0);
        row.next(0);
        row.put(-2, 1);
        checks.due("the last rank before the one met is not met", row.hasNext(0) ? row.get(-1) : 0, 102);
        row.put(LEAST + 1, 1);
        checks.due("the first rank behind the one met is met", row.next(0), LEAST + 1);
        row.remove(-1);
        checks.due("the end", row.hasNext(0), false);
        row.put(-1, 1);
        checks.due("one came in at the end", row.next(0), -1);
        checks.due("all in all", row.closeSweep(0), 4);
    }
}
