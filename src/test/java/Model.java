import java.util.ArrayList;
import java.util.List;
import java.util.Map;
import java.util.TreeMap;

/**
 * The document, told once more in the slowest and most literal way that there is, so that the class
 * can be held against it. It shares no code with the class, and makes new objects as it likes.
 */
final class Model {
    private static final int NONE = -1;

    private static final class Entry {
        final int key;
        final int hash;
        int value;

        Entry(int key, int hash, int value) {
            this.key = key;
            this.hash = hash;
            this.value = value;
        }
    }

    private static final class Sweep {
        final List<Integer> met = new ArrayList<>();
        long rank = -1;
        boolean tookOne = false;
    }

    private int way = 1;
    private Entry[] present = new Entry[8];
    private Entry[] old = null;
    private int moves = 0;
    private Sweep[] sweeps = new Sweep[4];

    void clear(int newWay) {
        if (newWay != 0 && newWay != 1) {
            throw new IllegalArgumentException();
        }
        way = newWay;
        present = new Entry[8];
        old = null;
        moves = 0;
        sweeps = new Sweep[4];
    }

    int put(int key, int value) {
        if (value < 0) {
            throw new IllegalArgumentException();
        }
        if (find(key) == null && size() == 200) {
            throw new IllegalStateException();
        }
        move();
        Entry there = find(key);
        if (there != null) {
            int had = there.value;
            there.value = value;
            return had;
        }
        if (8 * (size() + 1) > 7 * present.length) {
            if (old != null) {
                throw new AssertionError("a move begins while a move goes on");
            }
            old = present;
            present = new Entry[2 * old.length];
            moves++;
        }
        carry(present, new Entry(key, hash(key), value));
        return NONE;
    }

    int get(int key) {
        Entry there = find(key);
        return there == null ? NONE : there.value;
    }

    int remove(int key) {
        move();
        Entry there = find(key);
        if (there == null) {
            return NONE;
        }
        takeOut(slotOf(present, there) >= 0 ? present : old, there);
        return there.value;
    }

    int move() {
        int went = 0;
        while (old != null && went < 4) {
            int slot = 0;
            while (old[slot] == null) {
                slot++;
            }
            Entry entry = old[slot];
            Entry[] from = old;
            takeOut(from, entry);
            carry(present, entry);
            went++;
        }
        return went;
    }

    int size() {
        return count(present) + count(old);
    }

    int moves() {
        return moves;
    }

    int openSweep() {
        for (int number = 0; number < 4; number++) {
            if (sweeps[number] == null) {
                sweeps[number] = new Sweep();
                return number;
            }
        }
        throw new IllegalStateException();
    }

    boolean hasNext(int number) {
        return ranked().higherKey(sweep(number).rank) != null;
    }

    int next(int number) {
        Map.Entry<Long, Entry> ahead = ranked().higherEntry(sweep(number).rank);
        if (ahead == null) {
            throw new IllegalStateException();
        }
        sweep(number).rank = ahead.getKey();
        sweep(number).met.add(ahead.getValue().key);
        sweep(number).tookOne = false;
        return ahead.getValue().key;
    }

    int removeMet(int number) {
        Sweep sweep = sweep(number);
        if (sweep.met.isEmpty() || sweep.tookOne) {
            throw new IllegalStateException();
        }
        int key = sweep.met.get(sweep.met.size() - 1);
        if (find(key) == null) {
            throw new IllegalStateException();
        }
        sweep.tookOne = true;
        return remove(key);
    }

    int closeSweep(int number) {
        int met = sweep(number).met.size();
        sweeps[number] = null;
        return met;
    }

    int hash(int key) {
        if (way == 0) {
            return key;
        }
        int h = (int) ((long) key * -1640531535L);
        return h ^ (h >>> 15);
    }

    int slots(int table) {
        Entry[] asked = table(table);
        return asked == null ? 0 : asked.length;
    }

    int keysIn(int table) {
        return count(table(table));
    }

    byte control(int table, int slot) {
        Entry entry = entry(table, slot);
        return entry == null ? -128 : (byte) tag(entry.hash);
    }

    int keyAt(int table, int slot) {
        Entry entry = entry(table, slot);
        if (entry == null) {
            throw new IllegalStateException();
        }
        return entry.key;
    }

    int distanceAt(int table, int slot) {
        Entry entry = entry(table, slot);
        return entry == null ? NONE : distance(table(table), entry.hash, slot);
    }

    int longest() {
        int longest = NONE;
        for (int slot = 0; slot < present.length; slot++) {
            longest = Math.max(longest, distanceAt(0, slot));
        }
        return longest;
    }

    int total() {
        int total = 0;
        for (int slot = 0; slot < present.length; slot++) {
            if (present[slot] != null) {
                total += distanceAt(0, slot);
            }
        }
        return total;
    }

    int groups(int key) {
        return looking(key)[0];
    }

    int comparisons(int key) {
        return looking(key)[1];
    }

    int displaced(int key) {
        for (Entry entry : present) {
            if (entry != null && entry.key == key) {
                throw new IllegalStateException();
            }
        }
        Entry[] tried = present.clone();
        carry(tried, new Entry(key, hash(key), 0));
        int elsewhere = 0;
        for (int slot = 0; slot < present.length; slot++) {
            if (present[slot] != null && tried[slot] != present[slot]) {
                elsewhere++;
            }
        }
        return elsewhere;
    }

    int plainTotal() {
        int total = 0;
        for (int distance : plainDistances()) {
            total += distance;
        }
        return total;
    }

    int plainLongest() {
        int longest = NONE;
        for (int distance : plainDistances()) {
            longest = Math.max(longest, distance);
        }
        return longest;
    }

    private List<Integer> plainDistances() {
        TreeMap<Integer, Integer> hashes = new TreeMap<>();
        for (Entry entry : present) {
            if (entry != null) {
                hashes.put(entry.key, entry.hash);
            }
        }
        boolean[] taken = new boolean[present.length];
        List<Integer> distances = new ArrayList<>();
        for (int hash : hashes.values()) {
            int slot = home(present, hash);
            int distance = 0;
            while (taken[slot]) {
                slot = behind(present, slot);
                distance++;
            }
            taken[slot] = true;
            distances.add(distance);
        }
        return distances;
    }

    /** How many groups are looked at, and how many slots are compared. */
    private int[] looking(int key) {
        int[] sums = new int[2];
        if (!look(present, key, sums) && old != null) {
            look(old, key, sums);
        }
        return sums;
    }

    private boolean look(Entry[] table, int key, int[] sums) {
        int slot = home(table, hash(key));
        for (int group = 0; group < table.length / 8; group++) {
            sums[0]++;
            boolean empty = false;
            for (int i = 0; i < 8; i++) {
                Entry entry = table[slot];
                if (entry == null) {
                    empty = true;
                } else if (tag(entry.hash) == tag(hash(key))) {
                    sums[1]++;
                    if (entry.key == key) {
                        return true;
                    }
                }
                slot = behind(table, slot);
            }
            if (empty) {
                return false;
            }
        }
        return false;
    }

    private Entry find(int key) {
        for (Entry entry : all()) {
            if (entry.key == key) {
                return entry;
            }
        }
        return null;
    }

    private List<Entry> all() {
        List<Entry> all = new ArrayList<>();
        for (Entry entry : present) {
            if (entry != null) {
                all.add(entry);
            }
        }
        if (old != null) {
            for (Entry entry : old) {
                if (entry != null) {
                    all.add(entry);
                }
            }
        }
        return all;
    }

    private TreeMap<Long, Entry> ranked() {
        TreeMap<Long, Entry> ranked = new TreeMap<>();
        for (Entry entry : all()) {
            long rank = 0;
            for (int bit = 0; bit < 32; bit++) {
                rank = 2 * rank + (entry.hash >> bit & 1);
            }
            ranked.put(rank, entry);
        }
        return ranked;
    }

    private static void carry(Entry[] table, Entry entry) {
        Entry carried = entry;
        int slot = home(table, entry.hash);
        while (table[slot] != null) {
            Entry there = table[slot];
            if (distance(table, there.hash, slot) < distance(table, carried.hash, slot)) {
                table[slot] = carried;
                carried = there;
            }
            slot = behind(table, slot);
        }
        table[slot] = carried;
    }

    private void takeOut(Entry[] table, Entry entry) {
        int empty = slotOf(table, entry);
        table[empty] = null;
        int next = behind(table, empty);
        while (table[next] != null && distance(table, table[next].hash, next) > 0) {
            table[empty] = table[next];
            table[next] = null;
            empty = next;
            next = behind(table, empty);
        }
        if (count(old) == 0) {
            old = null;
        }
    }

    private static int slotOf(Entry[] table, Entry entry) {
        for (int slot = 0; slot < table.length; slot++) {
            if (table[slot] == entry) {
                return slot;
            }
        }
        return -1;
    }

    private static int distance(Entry[] table, int hash, int slot) {
        int distance = 0;
        for (int at = home(table, hash); at != slot; at = behind(table, at)) {
            distance++;
        }
        return distance;
    }

    private static int behind(Entry[] table, int slot) {
        return slot == table.length - 1 ? 0 : slot + 1;
    }

    private static int home(Entry[] table, int hash) {
        return Math.floorMod(hash, table.length);
    }

    private static int tag(int hash) {
        return hash >>> 25;
    }

    private static int count(Entry[] table) {
        int count = 0;
        if (table != null) {
            for (Entry entry : table) {
                count += entry == null ? 0 : 1;
            }
        }
        return count;
    }

    private Sweep sweep(int number) {
        if (number < 0 || number > 3 || sweeps[number] == null) {
            throw new IndexOutOfBoundsException();
        }
        return sweeps[number];
    }

    private Entry[] table(int table) {
        if (table == 0) {
            return present;
        }
        if (table == 1) {
            return old;
        }
        throw new IndexOutOfBoundsException();
    }

    private Entry entry(int table, int slot) {
        Entry[] asked = table(table);
        if (asked == null || slot < 0 || slot >= asked.length) {
            throw new IndexOutOfBoundsException();
        }
        return asked[slot];
    }
}
