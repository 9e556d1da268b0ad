import java.util.function.LongSupplier;

/**
 * Many runs of 512 calls, each call answered by the class and by the model. The runs look random,
 * but every one follows from its number, so that a failure comes back.
 */
public final class ModelTest {
    private static final int RUNS = 3000;
    private static final int CALLS = 512;
    private static final int INVERSE_FACTOR = inverse(-1640531535);
    private static final int[] EDGES = {
        0, -1, 1, 7, 8, -8, Integer.MIN_VALUE, Integer.MAX_VALUE, 255, 256, -256, 1 << 25, 127 << 25, 1 << 31 | 1
    };

    private final Checks checks;
    private final int run;
    private final Model model = new Model();
    private final RobinRow row = new RobinRow();
    private long seed;
    private int way = RobinRow.MIXED;
    private int kind;
    private int appetite;

    /** What the runs came to in all: proof that they go where the document has its edges. */
    private static int mostSlots = 0;
    private static int refusedFull = 0;
    private static int mostDisplaced = 0;
    private static int mostGroups = 0;
    private static int oldEndedByRemove = 0;
    private static int sweepsOverMoves = 0;
    private static int refusedSweeps = 0;

    private ModelTest(Checks checks, int run) {
        this.checks = checks;
        this.run = run;
        this.seed = run * 7919L + 17;
    }

    public static void main(String[] args) {
        Checks checks = new Checks("ModelTest");
        for (int run = 0; run < RUNS; run++) {
            new ModelTest(checks, run).go();
        }
        checks.due("a table has had 256 slots", mostSlots, 256);
        checks.due("a 201st key has been refused", refusedFull > 0, true);
        checks.due("5 keys at once have been displaced", mostDisplaced >= 5, true);
        checks.due("6 groups at once have been looked at", mostGroups >= 6, true);
        checks.due("a move has ended with a key taken out", oldEndedByRemove > 0, true);
        checks.due("a sweep has gone on while a move went on", sweepsOverMoves > 0, true);
        checks.due("a 5th sweep has been refused", refusedSweeps > 0, true);
        checks.close();
    }

    private void go() {
        kind = run % 7;
        int calls = 0;
        if (run % 2 == 0) {
            way = RobinRow.PLAIN;
            both("clear(0)", () -> cleared(model, 0), () -> cleared(row, 0));
            calls++;
        }
        appetite = 20 + below(70);
        while (calls < CALLS) {
            if (calls % 64 == 63) {
                appetite = run % 3 == 0 ? 90 : 10 + below(80);
            }
            one();
            calls++;
        }
    }

    private void one() {
        int kindOfCall = below(100);
        if (kindOfCall < 55) {
            change();
        } else if (kindOfCall < 72) {
            sweep();
        } else {
            look();
        }
    }

    private void change() {
        int key = key();
        if (below(100) < appetite) {
            int value = below(40) == 0 ? -1 - below(3) : below(1000);
            String answer = both("put(" + key + ", " + value + ")",
                    () -> model.put(key, value), () -> row.put(key, value));
            refusedFull += answer.equals("throws IllegalStateException") ? 1 : 0;
            mostSlots = Math.max(mostSlots, model.slots(0));
        } else if (below(300) == 0) {
            int newWay = below(4) - 1;
            String answer = both("clear(" + newWay + ")", () -> cleared(model, newWay), () -> cleared(row, newWay));
            way = answer.equals("0") ? newWay : way;
        } else if (below(4) == 0) {
            both("move()", model::move, row::move);
        } else {
            int wasOld = model.keysIn(1);
            int target = below(3) == 0 ? key : anyKeyThere(key);
            both("remove(" + target + ")", () -> model.remove(target), () -> row.remove(target));
            oldEndedByRemove += wasOld > 4 && model.slots(1) == 0 ? 1 : 0;
        }
    }

    private void sweep() {
        int number = below(12) == 0 ? below(8) - 2 : below(4);
        int choice = below(20);
        if (choice < 3) {
            String answer = both("openSweep()", model::openSweep, row::openSweep);
            refusedSweeps += answer.startsWith("throws") ? 1 : 0;
        } else if (choice < 12) {
            String answer = both("next(" + number + ")", () -> model.next(number), () -> row.next(number));
            sweepsOverMoves += !answer.startsWith("throws") && model.slots(1) > 0 ? 1 : 0;
        } else if (choice < 15) {
            both("hasNext(" + number + ")",
                    () -> model.hasNext(number) ? 1 : 0, () -> row.hasNext(number) ? 1 : 0);
        } else if (choice < 19) {
            both("removeMet(" + number + ")", () -> model.removeMet(number), () -> row.removeMet(number));
        } else if (below(3) == 0) {
            both("closeSweep(" + number + ")", () -> model.closeSweep(number), () -> row.closeSweep(number));
        }
    }

    private void look() {
        int key = below(2) == 0 ? key() : anyKeyThere(key());
        int table = below(30) == 0 ? below(5) - 2 : model.slots(1) > 0 ? below(2) : 0;
        int slot = slot(table);
        switch (below(16)) {
            case 0 -> both("get(" + key + ")", () -> model.get(key), () -> row.get(key));
            case 1 -> both("size()", model::size, row::size);
            case 2 -> both("moves()", model::moves, row::moves);
            case 3 -> both("hash(" + key + ")", () -> model.hash(key), () -> row.hash(key));
            case 4 -> both("slots(" + table + ")", () -> model.slots(table), () -> row.slots(table));
            case 5 -> both("keysIn(" + table + ")", () -> model.keysIn(table), () -> row.keysIn(table));
            case 6 -> both("control(" + table + ", " + slot + ")",
                    () -> model.control(table, slot), () -> row.control(table, slot));
            case 7 -> both("keyAt(" + table + ", " + slot + ")",
                    () -> model.keyAt(table, slot), () -> row.keyAt(table, slot));
            case 8 -> both("distanceAt(" + table + ", " + slot + ")",
                    () -> model.distanceAt(table, slot), () -> row.distanceAt(table, slot));
            case 9 -> both("longest()", model::longest, row::longest);
            case 10 -> both("total()", model::total, row::total);
            case 11 -> {
                String answer = both("groups(" + key + ")", () -> model.groups(key), () -> row.groups(key));
                mostGroups = Math.max(mostGroups, Integer.parseInt(answer));
            }
            case 12 -> both("comparisons(" + key + ")", () -> model.comparisons(key), () -> row.comparisons(key));
            case 13 -> {
                String answer = both("displaced(" + key + ")", () -> model.displaced(key), () -> row.displaced(key));
                mostDisplaced = Math.max(mostDisplaced, answer.startsWith("throws") ? 0 : Integer.parseInt(answer));
            }
            case 14 -> both("plainTotal()", model::plainTotal, row::plainTotal);
            default -> both("plainLongest()", model::plainLongest, row::plainLongest);
        }
    }

    private String both(String call, LongSupplier asModel, LongSupplier asRow) {
        String want = Checks.answer(asModel);
        checks.due("run " + run + ": " + call, Checks.answer(asRow), want);
        return want;
    }

    private static long cleared(Model model, int way) {
        model.clear(way);
        return 0;
    }

    private static long cleared(RobinRow row, int way) {
        row.clear(way);
        return 0;
    }

    private int slot(int table) {
        int slots = table == 0 || table == 1 ? model.slots(table) : 8;
        return below(15) == 0 ? (below(2) == 0 ? -1 : slots) : below(Math.max(1, slots));
    }

    private int anyKeyThere(int otherwise) {
        int table = model.keysIn(1) > 0 && below(2) == 0 ? 1 : 0;
        int slots = model.slots(table);
        int from = below(slots);
        for (int i = 0; i < slots; i++) {
            int slot = (from + i) % slots;
            if (model.distanceAt(table, slot) >= 0) {
                return model.keyAt(table, slot);
            }
        }
        return otherwise;
    }

    /** A key whose hash is of the run's kind, so that both ways come to the same crowds. */
    private int key() {
        int hash = hashOfKind();
        return way == RobinRow.PLAIN ? hash : unmixed(hash);
    }

    private int hashOfKind() {
        switch (kind) {
            case 0:
                return below(300) - 30;
            case 1:
                return below(128) << 25 | below(4) << 10 | below(3);
            case 2:
                return 5 << 25 | below(1 << 12);
            case 3:
                return below(3) << 25 | below(40) << 8 | 250 + below(6);
            case 4:
                return below(300) * 256 + 255;
            case 5:
                return any();
            default:
                return below(3) == 0 ? EDGES[below(EDGES.length)] : below(2) == 0 ? any() : below(64) << 3 | 7;
        }
    }

    private static int unmixed(int hash) {
        int product = hash ^ hash >>> 15 ^ hash >>> 30;
        return product * INVERSE_FACTOR;
    }

    private static int inverse(int odd) {
        int inverse = odd;
        for (int i = 0; i < 5; i++) {
            inverse *= 2 - odd * inverse;
        }
        return inverse;
    }

    private int any() {
        seed = seed * 6364136223846793005L + 1442695040888963407L;
        return (int) (seed >>> 32);
    }

    private int below(int bound) {
        return Math.floorMod(any() >>> 3, bound);
    }
}
