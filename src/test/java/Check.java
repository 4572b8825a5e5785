import java.util.ArrayList;
import java.util.List;

/** Counts what was checked, and tells what went wrong. */
final class Check {
    private static final int MOST_TOLD = 40;

    private int passed;
    private int failed;
    private final List<String> told = new ArrayList<>();
    private String test = "";

    /** From now on what goes wrong is told as a part of this test. */
    void in(String name) {
        test = name + ": ";
    }

    int count() {
        return passed + failed;
    }

    void is(String what, long got, long want) {
        if (got == want) {
            passed++;
        } else {
            wrong(what + " answered " + got + ", due is " + want);
        }
    }

    void is(String what, String got, String want) {
        if (got.equals(want)) {
            passed++;
        } else {
            wrong(what + " answered \"" + got + "\", due is \"" + want + "\"");
        }
    }

    void wrong(String what) {
        failed++;
        if (told.size() < MOST_TOLD) {
            told.add(test + what);
        }
    }

    boolean hasFailed() {
        return failed > 0;
    }

    /** Prints the counts and ends the program with exit code 1 if anything was wrong. */
    void end(String name) {
        for (String line : told) {
            System.out.println(line);
        }
        System.out.println(name + ": " + passed + " checks passed, " + failed + " failed");
        if (failed > 0 || passed == 0) {
            System.exit(1);
        }
    }
}
