import java.util.function.LongSupplier;

/** Counts checks and prints those that failed. */
final class Checks {
    private final String name;
    private int made = 0;
    private int wrong = 0;

    Checks(String name) {
        this.name = name;
    }

    void due(String what, Object got, Object want) {
        made++;
        if (!want.equals(got)) {
            wrong++;
            System.out.println(name + ": " + what + " answered " + got + ", due is " + want);
        }
    }

    void due(String what, long got, long want) {
        due(what, Long.valueOf(got), Long.valueOf(want));
    }

    void due(String what, boolean got, boolean want) {
        due(what, Boolean.valueOf(got), Boolean.valueOf(want));
    }

    /** The call must throw just this class, and leave the object as it was. */
    void thrown(RobinRow row, String what, Class<? extends RuntimeException> want, LongSupplier call) {
        String before = Pictures.of(row);
        due(what, answer(call), "throws " + want.getSimpleName());
        due(what + ": what it left", Pictures.of(row), before);
    }

    /** The same for an object whose picture would take more calls than an object has. */
    void thrownUnpictured(String what, Class<? extends RuntimeException> want, LongSupplier call) {
        due(what, answer(call), "throws " + want.getSimpleName());
    }

    static String answer(LongSupplier call) {
        try {
            return Long.toString(call.getAsLong());
        } catch (RuntimeException e) {
            return "throws " + e.getClass().getSimpleName();
        }
    }

    void close() {
        System.out.println(name + ": " + (made - wrong) + " checks held, " + wrong + " did not");
        if (wrong != 0 || made == 0) {
            System.exit(1);
        }
    }
}
