import java.io.IOException;
import java.lang.reflect.InvocationTargetException;
import java.lang.reflect.Method;
import java.nio.file.Files;
import java.nio.file.Path;
import java.util.Arrays;
import java.util.Comparator;

/**
 * The boundary cases, sentence by sentence: each test is named after its promise, or "Description", and what a
 * sentence says, and quotes the sentence. No sentence may be left out. The argument is the path of the document.
 */
public final class BoundaryTest extends Asking {
    private static final Class<?>[] TESTS = {
        BoundaryLegs.class, BoundaryRows.class, BoundaryAssigning.class, BoundaryReserves.class, BoundaryBest.class,
        BoundaryTexts.class, BoundaryChanges.class, BoundaryMisreadings.class,
    };

    /** What names no boundary: where the document speaks of itself, or says what is free. */
    private static final String[][] NO_BOUNDARY = {
        {"What it is", "A pairer of flight crews: legs, duties by legal limits, windows, pairings that end at the base, "
                + "deadheads with costs, reserves that are called by rules, delays and repairs, best pairings by search, "
                + "a report as text, commands as text, undo and snapshots."},
        {"Description", "The constants:"},
        {"Description", "The constructor and the methods follow, a promise each: the signature, then what it does."},
        {"Not promised", "How the state is held inside the object is free, as are the speed of each call, the text of "
                + "toString and the behaviour of equals and hashCode. Use of one object from several threads at once is "
                + "not promised to be safe. Nothing is promised beyond the answers and state changes described above, and "
                + "nothing about an object after its 512th call."},
    };

    public static void main(String[] args) throws IOException, IllegalAccessException {
        Path file = Path.of(args[0]);
        Doc doc = Files.exists(file) ? new Doc(file) : null;
        for (String[] part : NO_BOUNDARY) {
            quote(doc, part[0], part[1]);
        }
        for (Class<?> tests : TESTS) {
            Method[] methods = tests.getDeclaredMethods();
            Arrays.sort(methods, Comparator.comparing(Method::getName));
            for (Method method : methods) {
                Sentence sentence = method.getAnnotation(Sentence.class);
                if (sentence != null) {
                    run(method, sentence, doc);
                }
            }
        }
        CHECK.in("BoundaryTest");
        if (doc == null) {
            System.out.println("BoundaryTest: there is no " + file + ", so nobody looked whether all sentences have tests");
        } else {
            for (String gap : doc.unquoted()) {
                CHECK.wrong("has no test for the sentence of " + gap);
            }
        }
        CHECK.end("BoundaryTest");
    }

    private static void run(Method method, Sentence sentence, Doc doc) throws IllegalAccessException {
        CHECK.in(method.getName());
        String begin = beginOfName(sentence.of());
        is("whether the name begins with " + begin, method.getName().startsWith(begin) ? 1 : 0, 1);
        for (String says : sentence.says()) {
            quote(doc, sentence.of(), says);
        }
        int before = CHECK.count();
        try {
            method.invoke(null);
        } catch (InvocationTargetException thrown) {
            CHECK.wrong("threw " + thrown.getCause());
        }
        is("whether it checks anything", CHECK.count() > before ? 1 : 0, 1);
    }

    private static String beginOfName(String section) {
        if (section.startsWith("Promise ")) {
            return String.format("promise%02d", Integer.parseInt(section.substring(8)));
        }
        return section.equals("Description") ? "description" : "whatItIs";
    }

    private static void quote(Doc doc, String section, String sentence) {
        if (doc != null && !doc.quote(section, sentence)) {
            CHECK.wrong("quotes what the document does not say in " + section + ": " + sentence);
        }
    }
}
