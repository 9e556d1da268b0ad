import java.io.IOException;
import java.nio.file.Files;
import java.nio.file.Path;

/** The program in README.md answers what README.md says. It is run from the project's folder. */
public final class ReadmeTest {
    private static final Path README = Path.of("README.md");
    private static final Path THIS = Path.of("src/test/java/ReadmeTest.java");

    private static final Checks checks = new Checks("ReadmeTest");

    public static void main(String[] args) throws IOException {
        program();
        everyLineOfTheProgramIsRunHere();
        checks.close();
    }

    private static void program() {
        RobinRow row = new RobinRow();
        checks.due("slots", row.slots(RobinRow.PRESENT), 8);
        checks.due("the way", row.hash(1), -1640610337);
        checks.due("put 42", row.put(42, 7), RobinRow.NONE);
        checks.due("put 42 again", row.put(42, 8), 7);
        checks.due("get 42", row.get(42), 8);
        checks.due("put -5", row.put(-5, 0), RobinRow.NONE);

        int sweep = row.openSweep();
        checks.due("open", sweep, 0);
        while (row.hasNext(sweep)) {
            int key = row.next(sweep);
            if (row.get(key) == 0) {
                checks.due("value of the key taken out", row.removeMet(sweep), 0);
            }
        }
        checks.due("close", row.closeSweep(sweep), 2);
        checks.due("size", row.size(), 1);
        checks.due("the key that stays", row.get(42), 8);
    }

    /** So that neither can change without the other. */
    private static void everyLineOfTheProgramIsRunHere() throws IOException {
        String here = Files.readString(THIS);
        String readme = Files.readString(README);
        int begin = readme.indexOf("```java");
        int end = readme.indexOf("```", begin + 1);
        checks.due("README.md has a program", begin >= 0 && end > begin, true);
        for (String line : readme.substring(begin, end).split("\n")) {
            String call = line.replaceFirst("//.*", "").replace(";", "").trim();
            checks.due("README.md's line stands here: " + call, line.startsWith("```") || here.contains(call), true);
        }
    }
}
