/** Objects that tests begin with. */
final class Rows {
    private Rows() {
    }

    /** The way PLAIN, with the keys put in this order; the values are 100, 101 .. */
    static RobinRow plain(int... keys) {
        RobinRow row = new RobinRow();
        row.clear(RobinRow.PLAIN);
        for (int i = 0; i < keys.length; i++) {
            row.put(keys[i], 100 + i);
        }
        return row;
    }

    /** The way PLAIN, with the keys 0 to count - 1 put in this order; the values are 100, 101 .. */
    static RobinRow counted(int count) {
        int[] keys = new int[count];
        for (int key = 0; key < count; key++) {
            keys[key] = key;
        }
        return plain(keys);
    }
}
