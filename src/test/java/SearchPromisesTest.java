/** Promises 22 to 26: what searches take, what would be displaced, and probing without Robin Hood. */
public final class SearchPromisesTest {
    private static final Class<IllegalStateException> STATE = IllegalStateException.class;
    private static final int TAG = 1 << 25;

    private static final Checks checks = new Checks("SearchPromisesTest");

    public static void main(String[] args) {
        promise22Groups();
        promise22BothTables();
        promise23Comparisons();
        promise23BothTables();
        searchesChangeNothing();
        promise24Displaced();
        promise24DuringMove();
        promise24KeyIsThere();
        promise25And26Plain();
        promise25And26DuringMove();
        checks.close();
    }

    private static void promise22Groups() {
        checks.due("22: no keys", new RobinRow().groups(7), 1);
        RobinRow eight = Rows.plain(0, 8, 16, 24, 32, 40, 48);
        checks.due("22: the last of seven", eight.groups(48), 1);
        checks.due("22: a group goes over the last slot", eight.groups(55), 1);
        RobinRow row = Rows.counted(14);
        row.move();
        row.move();
        checks.due("22: 14 of 16 slots", row.keysIn(0), 14);
        checks.due("22: found in the first group", row.groups(0), 1);
        checks.due("22: eight keys, then an empty slot", row.groups(16), 2);
        checks.due("22: an empty slot as the eighth", row.groups(16 + 7), 1);
        checks.due("22: eight keys from 6 on", row.groups(16 + 6), 2);
        checks.due("22: over the last slot", row.groups(16 + 15), 1);
        RobinRow crowd = Rows.plain(0, 16, 32, 48, 64, 80, 96, 112, 128, 144, 160, 176);
        crowd.move();
        crowd.move();
        checks.due("22: the eighth from home", crowd.groups(crowd.keyAt(0, 7)), 1);
        checks.due("22: the ninth from home", crowd.groups(crowd.keyAt(0, 8)), 2);
        checks.due("22: none in two groups", crowd.groups(192), 2);
    }

    private static void promise22BothTables() {
        RobinRow row = Rows.counted(8);
        checks.due("22: in the present table", row.groups(7), 1);
        checks.due("22: in the old table", row.groups(3), 2);
        checks.due("22: in none", row.groups(99), 2);
        row.move();
        checks.due("22: taken over", row.groups(3), 1);
        row.move();
        checks.due("22: one table", row.groups(99), 1);
    }

    private static void promise23Comparisons() {
        checks.due("23: no keys", new RobinRow().comparisons(7), 0);
        RobinRow row = Rows.plain(1, 9, 17, TAG | 1, TAG | 9, 6);
        checks.due("23: slots", Pictures.keysOf(row, 0),
                " . 1=100 9=101 17=102 " + (TAG | 1) + "=103 " + (TAG | 9) + "=104 6=105 .");
        checks.due("23: the first", row.comparisons(1), 1);
        checks.due("23: the third", row.comparisons(17), 3);
        checks.due("23: another tag is passed", row.comparisons(TAG | 9), 2);
        checks.due("23: none there, all of its tag", row.comparisons(25), 4);
        checks.due("23: none there, of the other tag", row.comparisons(TAG | 17), 2);
        checks.due("23: none there, of no tag", row.comparisons(2 * TAG | 1), 0);
        checks.due("23: slots behind an empty one, too", row.comparisons(15), 4);
        checks.due("23: and over the last slot", Rows.plain(1, 2, 7).comparisons(15), 3);
    }

    private static void promise23BothTables() {
        RobinRow row = Rows.counted(8);
        checks.due("23: in the present table", row.comparisons(7), 1);
        checks.due("23: in both", row.comparisons(6), 1 + 1);
        checks.due("23: in both, none there", row.comparisons(16), 1 + 7);
        checks.due("23: in both, none there, from 8 on", row.comparisons(24), 0 + 7);
        row.move();
        checks.due("23: after a slice", row.comparisons(16), 5 + 3);
        RobinRow crowd = Rows.plain(0, 16, 32, 48, 64, 80, 96, 112, 128, 144, 160, 176);
        crowd.move();
        crowd.move();
        checks.due("23: in the second group", crowd.comparisons(crowd.keyAt(0, 8)), 9);
        checks.due("23: none in two groups", crowd.comparisons(192), 12);
    }

    private static void searchesChangeNothing() {
        RobinRow row = Rows.counted(8);
        row.openSweep();
        String before = Pictures.of(row);
        for (int key : new int[] {0, 6, 8, 99, -1}) {
            row.groups(key);
            row.comparisons(key);
            row.displaced(key);
        }
        row.plainTotal();
        row.plainLongest();
        row.longest();
        row.total();
        checks.due("22 to 26: nothing has changed", Pictures.of(row), before);
    }

    private static void promise24Displaced() {
        checks.due("24: no keys", new RobinRow().displaced(7), 0);
        RobinRow row = Rows.plain(1, 2, 3, 5);
        checks.due("24: an empty home", row.displaced(4), 0);
        checks.due("24: the empty slot 0", row.displaced(8), 0);
        checks.due("24: two are carried on", row.displaced(9), 2);
        checks.due("24: one", row.displaced(10), 1);
        checks.due("24: none, with a same distance", row.displaced(11), 0);
        checks.due("24: one at its home is displaced", Rows.plain(1, 9, 2).displaced(17), 1);
        checks.due("24: one that has lost its place passes its equals", Rows.plain(1, 9, 2, 10).displaced(17), 1);
        checks.due("24: over the last slot", Rows.plain(7, 0, 1).displaced(15), 2);
        RobinRow full = Rows.counted(7);
        checks.due("24: no move begins", full.displaced(8), 6);
        checks.due("24: still 8 slots", full.slots(0), 8);
        checks.due("24: still 7 keys", full.size(), 7);
    }

    private static void promise24DuringMove() {
        RobinRow row = Rows.counted(8);
        checks.due("24: a key of the old table", row.displaced(6), 0);
        checks.due("24: one beside the present table's key", row.displaced(23), 0);
        checks.due("24: no slice", row.keysIn(1), 7);
        row.move();
        checks.due("24: after a slice", row.displaced(16), 3);
        checks.due("24: a key of the old table still", row.displaced(5), 0);
    }

    private static void promise24KeyIsThere() {
        RobinRow row = Rows.counted(8);
        checks.thrown(row, "24: in the present table", STATE, () -> row.displaced(7));
        row.move();
        checks.thrown(row, "24: taken over", STATE, () -> row.displaced(0));
        RobinRow crowd = Rows.plain(1, 9, 17, 25);
        checks.thrown(crowd, "24: not at home", STATE, () -> crowd.displaced(25));
        crowd.remove(25);
        checks.due("24: taken out", crowd.displaced(25), 0);
    }

    private static void promise25And26Plain() {
        plain(new RobinRow(), 0, RobinRow.NONE);
        plain(Rows.plain(5), 0, 0);
        plain(Rows.plain(1, 9, 2, 17), 5, 3);
        plain(Rows.plain(17, 2, 9, 1), 5, 3);
        plain(Rows.plain(2, 1, -7), 2, 1);
        plain(Rows.plain(1, 9, 17, 20), 3, 2);
        plain(Rows.plain(7, 15, 0, 1), 3, 3);
        plain(Rows.plain(Integer.MAX_VALUE, Integer.MIN_VALUE, -1, 8), 4, 3);
        plain(Rows.plain(0, 8, 16, 24, 32, 40, 48), 21, 6);
    }

    private static void promise25And26DuringMove() {
        RobinRow row = Rows.plain(0, 8, 16, 24, 32, 40, 48, 56);
        plain(row, 0, 0);
        row.move();
        plain(row, 0 + 0 + 1 + 1 + 2, 2);
        row.move();
        plain(row, 2 * (1 + 2 + 3), 3);
        row.clear(RobinRow.MIXED);
        plain(row, 0, RobinRow.NONE);
    }

    private static void plain(RobinRow row, int total, int longest) {
        String keys = Pictures.keysOf(row, 0);
        checks.due("25:" + keys, row.plainTotal(), total);
        checks.due("26:" + keys, row.plainLongest(), longest);
        checks.due("25: again" + keys, row.plainTotal(), total);
        checks.due("25 and 26: unchanged", Pictures.keysOf(row, 0), keys);
    }
}
