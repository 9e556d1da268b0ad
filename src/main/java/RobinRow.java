/**
 * An open hash table from ints to values, with Robin Hood probing, deletion by shifting back,
 * control bytes that are matched in groups of eight, growth in slices, and sweeps that survive it.
 */
public final class RobinRow {
    public static final int NONE = -1;
    public static final int PLAIN = 0, MIXED = 1;
    public static final int PRESENT = 0, OLD = 1;

    private static final int MIX_FACTOR = -1640531535;
    private static final int MIX_SHIFT = 15;
    private static final int TAG_SHIFT = 25;
    private static final int EMPTY = -128;
    private static final int GROUP_SLOTS = 8;
    private static final int SLICE_KEYS = 4;
    private static final int FIRST_SLOTS = 8;
    private static final int MOST_KEYS = 200;
    /** 7 of 8 slots may have keys, so 200 keys never need more slots than these. */
    private static final int MOST_SLOTS = 256;
    private static final int MOST_SWEEPS = 4;
    /** Ranks are from 0 on, so every key stands behind this one. */
    private static final long BEFORE_ALL = -1L;

    private final Sweep[] sweeps = new Sweep[MOST_SWEEPS];
    private final Search search = new Search();
    private final PlainRow plainRow = new PlainRow();
    private Table present;
    /** It has no slots as long as no move goes on. */
    private Table old;
    private int way;
    private int begunMoves;

    public RobinRow() {
        present = new Table(FIRST_SLOTS);
        old = new Table(0);
        for (int number = 0; number < MOST_SWEEPS; number++) {
            sweeps[number] = new Sweep();
        }
        way = MIXED;
    }

    // ---- a map

    public void clear(int way) throws IllegalArgumentException {
        if (way != PLAIN && way != MIXED) {
            throw new IllegalArgumentException("there is no such way");
        }
        this.way = way;
        present.emptyWith(FIRST_SLOTS);
        old.emptyWith(0);
        begunMoves = 0;
        for (int number = 0; number < MOST_SWEEPS; number++) {
            sweeps[number].end();
        }
    }

    public int put(int key, int value) throws IllegalArgumentException, IllegalStateException {
        if (value < 0) {
            throw new IllegalArgumentException("a value is 0 or more");
        }
        if (size() >= MOST_KEYS && get(key) == NONE) {
            throw new IllegalStateException("there are 200 keys");
        }
        moveSlice();
        lookUp(key);
        if (search.hasFound()) {
            return search.table.exchangeValue(search.slot, value);
        }
        putNew(key, value);
        return NONE;
    }

    public int get(int key) {
        lookUp(key);
        return search.hasFound() ? search.table.valueIn(search.slot) : NONE;
    }

    public int remove(int key) {
        moveSlice();
        lookUp(key);
        if (!search.hasFound()) {
            return NONE;
        }
        int value = search.table.valueIn(search.slot);
        search.table.takeOut(search.slot);
        endMoveIfOldIsEmpty();
        return value;
    }

    public int move() {
        return moveSlice();
    }

    public int size() {
        return present.count + old.count;
    }

    public int moves() {
        return begunMoves;
    }

    // ---- sweeps

    public int openSweep() throws IllegalStateException {
        for (int number = 0; number < MOST_SWEEPS; number++) {
            if (!sweeps[number].isOpen) {
                sweeps[number].begin();
                return number;
            }
        }
        throw new IllegalStateException("4 sweeps are open");
    }

    public boolean hasNext(int sweep) throws IndexOutOfBoundsException {
        seekBehind(sweepOf(sweep).rank);
        return search.hasFound();
    }

    public int next(int sweep) throws IndexOutOfBoundsException, IllegalStateException {
        Sweep going = sweepOf(sweep);
        seekBehind(going.rank);
        if (!search.hasFound()) {
            throw new IllegalStateException("the sweep meets no other key");
        }
        int key = search.table.keyIn(search.slot);
        going.meet(key, search.table.rankIn(search.slot));
        return key;
    }

    public int removeMet(int sweep) throws IndexOutOfBoundsException, IllegalStateException {
        Sweep going = sweepOf(sweep);
        if (!going.mayRemove) {
            throw new IllegalStateException("the sweep has met no key that it has not taken out");
        }
        lookUp(going.key);
        if (!search.hasFound()) {
            throw new IllegalStateException("the key is not there any more");
        }
        going.mayRemove = false;
        return remove(going.key);
    }

    public int closeSweep(int sweep) throws IndexOutOfBoundsException {
        Sweep going = sweepOf(sweep);
        going.end();
        return going.met;
    }

    // ---- into the slots

    public int hash(int key) {
        if (way == PLAIN) {
            return key;
        }
        int product = key * MIX_FACTOR;
        return product ^ (product >>> MIX_SHIFT);
    }

    public int slots(int table) throws IndexOutOfBoundsException {
        return tableOf(table).slots;
    }

    public int keysIn(int table) throws IndexOutOfBoundsException {
        return tableOf(table).count;
    }

    public byte control(int table, int slot) throws IndexOutOfBoundsException {
        return tableWithSlot(table, slot).controlIn(slot);
    }

    public int keyAt(int table, int slot) throws IndexOutOfBoundsException, IllegalStateException {
        Table asked = tableWithSlot(table, slot);
        if (asked.isEmptyIn(slot)) {
            throw new IllegalStateException("the slot is empty");
        }
        return asked.keyIn(slot);
    }

    public int distanceAt(int table, int slot) throws IndexOutOfBoundsException {
        return tableWithSlot(table, slot).distanceIn(slot);
    }

    public int longest() {
        int longest = NONE;
        for (int slot = 0; slot < present.slots; slot++) {
            longest = Math.max(longest, present.distanceIn(slot));
        }
        return longest;
    }

    public int total() {
        int total = 0;
        for (int slot = 0; slot < present.slots; slot++) {
            // an empty slot has the distance NONE, which must not count
            total += Math.max(0, present.distanceIn(slot));
        }
        return total;
    }

    // ---- searches

    public int groups(int key) {
        lookUp(key);
        return search.groups;
    }

    public int comparisons(int key) {
        lookUp(key);
        return search.comparisons;
    }

    public int displaced(int key) throws IllegalStateException {
        int hash = hash(key);
        search.begin();
        search.lookIn(present, key, hash);
        if (search.hasFound()) {
            throw new IllegalStateException("the key is in the present table");
        }
        return present.displacedBy(hash);
    }

    // ---- the same keys, probed without Robin Hood

    public int plainTotal() {
        plainRow.fillFrom(present);
        return plainRow.total;
    }

    public int plainLongest() {
        plainRow.fillFrom(present);
        return plainRow.longest;
    }

    // ---- within

    private Table tableOf(int table) throws IndexOutOfBoundsException {
        if (table != PRESENT && table != OLD) {
            throw new IndexOutOfBoundsException("there is no such table");
        }
        return table == PRESENT ? present : old;
    }

    private Table tableWithSlot(int table, int slot) throws IndexOutOfBoundsException {
        Table asked = tableOf(table);
        if (slot < 0 || slot >= asked.slots) {
            throw new IndexOutOfBoundsException("the table has no such slot");
        }
        return asked;
    }

    private Sweep sweepOf(int sweep) throws IndexOutOfBoundsException {
        if (sweep < 0 || sweep >= MOST_SWEEPS || !sweeps[sweep].isOpen) {
            throw new IndexOutOfBoundsException("there is no such open sweep");
        }
        return sweeps[sweep];
    }

    private void lookUp(int key) {
        int hash = hash(key);
        search.begin();
        search.lookIn(present, key, hash);
        if (!search.hasFound()) {
            search.lookIn(old, key, hash);
        }
    }

    private void seekBehind(long rank) {
        search.begin();
        search.seekIn(present, rank);
        search.seekIn(old, rank);
    }

    private void putNew(int key, int value) {
        if (8 * (size() + 1) > 7 * present.slots) {
            beginMove();
        }
        present.carryIn(key, value, hash(key));
    }

    private void beginMove() {
        Table free = old;
        old = present;
        present = free;
        present.emptyWith(2 * old.slots);
        begunMoves++;
    }

    private int moveSlice() {
        int moved = 0;
        while (moved < SLICE_KEYS && old.count > 0) {
            int slot = old.lowestSlotWithKey();
            present.carryIn(old.keyIn(slot), old.valueIn(slot), old.hashIn(slot));
            old.takeOut(slot);
            moved++;
        }
        endMoveIfOldIsEmpty();
        return moved;
    }

    private void endMoveIfOldIsEmpty() {
        if (old.count == 0) {
            old.emptyWith(0);
        }
    }

    /**
     * Slots with keys. The rows are made once, for the most slots that a table can have, so that
     * a move makes no new ones. Every slot number that is used as an index comes from around(),
     * from a loop up to the number of slots, or has been tested by the caller.
     */
    private static final class Table {
        private final byte[] controls = new byte[MOST_SLOTS];
        private final int[] hashes = new int[MOST_SLOTS];
        private final int[] keys = new int[MOST_SLOTS];
        private final int[] values = new int[MOST_SLOTS];
        private int slots;
        private int count;

        Table(int slots) {
            emptyWith(slots);
        }

        void emptyWith(int wantedSlots) {
            slots = Math.min(wantedSlots, MOST_SLOTS);
            count = 0;
            for (int slot = 0; slot < slots; slot++) {
                controls[slot] = (byte) EMPTY;
            }
        }

        /** The slot with a number that may lie behind the last slot; an index even without slots. */
        int around(int number) {
            return slots > 0 ? number & (slots - 1) : 0;
        }

        boolean isEmptyIn(int slot) {
            return controls[slot] == EMPTY;
        }

        byte controlIn(int slot) {
            return controls[slot];
        }

        int hashIn(int slot) {
            return hashes[slot];
        }

        int keyIn(int slot) {
            return keys[slot];
        }

        int valueIn(int slot) {
            return values[slot];
        }

        /** NONE if the slot is empty; that is less than any key's distance. */
        int distanceIn(int slot) {
            return isEmptyIn(slot) ? NONE : around(slot - hashes[slot]);
        }

        /** The place of a slot's key in the order of the sweeps: no two keys have the same. */
        long rankIn(int slot) {
            return Integer.toUnsignedLong(Integer.reverse(hashes[slot]));
        }

        int exchangeValue(int slot, int value) {
            int before = values[slot];
            values[slot] = value;
            return before;
        }

        /** 0 if there are no keys. */
        int lowestSlotWithKey() {
            for (int slot = 0; slot < slots; slot++) {
                if (!isEmptyIn(slot)) {
                    return slot;
                }
            }
            return 0;
        }

        void carryIn(int newKey, int newValue, int newHash) {
            int key = newKey;
            int value = newValue;
            int hash = newHash;
            int distance = 0;
            int slot = around(hash);
            for (int step = 0; step < slots; step++) {
                int distanceThere = distanceIn(slot);
                if (distanceThere == NONE) {
                    fill(slot, key, value, hash);
                    count++;
                    return;
                }
                if (distanceThere < distance) {
                    int keyThere = keys[slot];
                    int valueThere = values[slot];
                    int hashThere = hashes[slot];
                    fill(slot, key, value, hash);
                    key = keyThere;
                    value = valueThere;
                    hash = hashThere;
                    distance = distanceThere;
                }
                slot = around(slot + 1);
                distance++;
            }
        }

        /** Goes the way of carryIn(), but only counts the keys that would lose their place. */
        int displacedBy(int hash) {
            int displaced = 0;
            int distance = 0;
            int slot = around(hash);
            for (int step = 0; step < slots; step++) {
                int distanceThere = distanceIn(slot);
                if (distanceThere == NONE) {
                    break;
                }
                if (distanceThere < distance) {
                    displaced++;
                    distance = distanceThere;
                }
                slot = around(slot + 1);
                distance++;
            }
            return displaced;
        }

        void takeOut(int slot) {
            int empty = slot;
            int behind = around(empty + 1);
            for (int step = 1; step < slots && distanceIn(behind) > 0; step++) {
                fill(empty, keys[behind], values[behind], hashes[behind]);
                empty = behind;
                behind = around(empty + 1);
            }
            controls[empty] = (byte) EMPTY;
            count--;
        }

        void fill(int slot, int key, int value, int hash) {
            controls[slot] = (byte) (hash >>> TAG_SHIFT);
            hashes[slot] = hash;
            keys[slot] = key;
            values[slot] = value;
        }
    }

    /**
     * Where a search came to, and what it took. There is one for all calls, which begin it anew,
     * so that no call makes an object.
     */
    private static final class Search {
        /** It is null, and the slot means nothing, as long as no key is found. */
        private Table table;
        private int slot;
        private int groups;
        private int comparisons;

        void begin() {
            table = null;
            groups = 0;
            comparisons = 0;
        }

        boolean hasFound() {
            return table != null;
        }

        void lookIn(Table where, int key, int hash) {
            boolean ended = false;
            for (int passed = 0; passed < where.slots && !ended; passed += GROUP_SLOTS) {
                groups++;
                boolean sawEmpty = lookAtGroup(where, hash + passed, key, hash >>> TAG_SHIFT);
                ended = sawEmpty || hasFound();
            }
        }

        /** Tells whether the group has an empty slot; slots behind that one are compared, too. */
        boolean lookAtGroup(Table where, int first, int key, int tag) {
            boolean sawEmpty = false;
            for (int place = 0; place < GROUP_SLOTS && !hasFound(); place++) {
                int looked = where.around(first + place);
                sawEmpty = sawEmpty || where.isEmptyIn(looked);
                if (where.controlIn(looked) == tag) {
                    comparisons++;
                    if (where.keyIn(looked) == key) {
                        table = where;
                        slot = looked;
                    }
                }
            }
            return sawEmpty;
        }

        /** Keeps what was found in another table, unless a key here stands ahead of it. */
        void seekIn(Table where, long rank) {
            for (int looked = 0; looked < where.slots; looked++) {
                if (!where.isEmptyIn(looked) && where.rankIn(looked) > rank
                        && (!hasFound() || where.rankIn(looked) < table.rankIn(slot))) {
                    table = where;
                    slot = looked;
                }
            }
        }
    }

    private static final class Sweep {
        private boolean isOpen;
        private boolean mayRemove;
        private int met;
        private int key;
        private long rank;

        void begin() {
            isOpen = true;
            mayRemove = false;
            met = 0;
            rank = BEFORE_ALL;
        }

        void meet(int metKey, long metRank) {
            mayRemove = true;
            met++;
            key = metKey;
            rank = metRank;
        }

        void end() {
            isOpen = false;
        }
    }

    /** The keys of a table as they would stand without Robin Hood: only their distances are kept. */
    private static final class PlainRow {
        private final int[] rising = new int[MOST_SLOTS];
        private final boolean[] taken = new boolean[MOST_SLOTS];
        private int total;
        private int longest;

        void fillFrom(Table table) {
            total = 0;
            longest = NONE;
            for (int slot = 0; slot < MOST_SLOTS; slot++) {
                taken[slot] = false;
            }
            int count = sortByKeys(table);
            for (int place = 0; place < count; place++) {
                int distance = takeFirstFree(table, table.hashIn(rising[place]));
                total += distance;
                longest = Math.max(longest, distance);
            }
        }

        /** Puts the numbers of the slots that have keys in order, by their keys; tells how many. */
        int sortByKeys(Table table) {
            int count = 0;
            for (int slot = 0; slot < table.slots; slot++) {
                if (!table.isEmptyIn(slot)) {
                    int place = count;
                    for (; place > 0 && table.keyIn(rising[place - 1]) > table.keyIn(slot); place--) {
                        rising[place] = rising[place - 1];
                    }
                    rising[place] = slot;
                    count++;
                }
            }
            return count;
        }

        int takeFirstFree(Table table, int hash) {
            int distance = 0;
            while (distance < table.slots && taken[table.around(hash + distance)]) {
                distance++;
            }
            taken[table.around(hash + distance)] = true;
            return distance;
        }
    }
}
