/** All that can be seen of an object without changing it, as one text; meant for small tables. */
final class Pictures {
    private Pictures() {
    }

    static String of(RobinRow row) {
        StringBuilder text = new StringBuilder();
        text.append("size ").append(row.size()).append(" moves ").append(row.moves());
        for (int table = RobinRow.PRESENT; table <= RobinRow.OLD; table++) {
            text.append(table == RobinRow.PRESENT ? " present" : " old");
            text.append(keysOf(row, table));
        }
        for (int sweep = 0; sweep < 4; sweep++) {
            int number = sweep;
            text.append(" sweep ").append(Checks.answer(() -> row.hasNext(number) ? 1 : 0));
        }
        return text.toString();
    }

    /** The slots of a table: "." for an empty one, otherwise key=value. */
    static String keysOf(RobinRow row, int table) {
        StringBuilder text = new StringBuilder();
        int slots = row.slots(table);
        for (int slot = 0; slot < slots; slot++) {
            text.append(' ');
            if (row.control(table, slot) == -128) {
                text.append('.');
            } else {
                int key = row.keyAt(table, slot);
                text.append(key).append('=').append(row.get(key));
            }
        }
        return text.toString();
    }
}
