import java.io.File;
import java.io.IOException;
import java.lang.reflect.InvocationTargetException;
import java.net.URL;
import java.net.URLClassLoader;
import java.nio.file.Files;
import java.nio.file.Path;
import java.util.ArrayList;
import java.util.Collections;
import java.util.List;
import java.util.regex.Matcher;
import java.util.regex.Pattern;
import javax.tools.ToolProvider;

/**
 * What README.md shows is so. Its examples are made into a class, which is compiled and run: each statement with an
 * answer behind it must answer this. Its tables are compared with the class and with the document. The arguments
 * are the paths of README.md, of the document, of the program's classes, and of a directory for the examples.
 */
public final class ReadmeTest {
    private static final String[] CODES = {"BAD", "NONE", "FULL", "DUPLICATE", "RANGE"};
    private static final int[] VALUES = {CrewPairer.BAD, CrewPairer.NONE, CrewPairer.FULL, CrewPairer.DUPLICATE,
        CrewPairer.RANGE};
    private static final int REASONS = 10;
    private static final int RULES = 8;
    private static final String TEST_COMMAND = "bash .ci/run";

    /** A statement at the beginning of a line, and its answer: a number, a constant or a text in quotation marks. */
    private static final Pattern ANSWERED =
            Pattern.compile("(?:int (\\w+) = )?(\\S.*?);\\s+// (?:(-?\\d+|[A-Z]+): \\S.*|(\"[^\"]*\"))");
    /** What needs no answer: what makes an object, what belongs to a loop, and what only calls the Java library. */
    private static final Pattern UNANSWERED =
            Pattern.compile("\\w+ \\w+ = new \\w+\\(\\);|(for|while) \\(.*\\) \\{|    \\S.*;|\\}");

    private static final Check CHECK = new Check();

    private ReadmeTest() {
    }

    public static void main(String[] args) throws Exception {
        List<String> readme = Files.readAllLines(Path.of(args[0]));
        examples(readme, args[2], Path.of(args[3]));
        codes(readme, new Doc(Path.of(args[1])));
        lowestAnswers();
        reasons(readme, new Doc(Path.of(args[1])));
        rules(readme);
        methods(readme);
        CHECK.in("tests");
        CHECK.is("lines with the command that runs the tests", Collections.frequency(readme, "    " + TEST_COMMAND), 1);
        CHECK.is("whether there is what it runs", new File(TEST_COMMAND.replace("bash ", "")).exists() ? 1 : 0, 1);
        CHECK.end("ReadmeTest");
    }

    /** Called by the examples. */
    public static void due(String statement, long got, long want) {
        CHECK.is(statement, got, want);
    }

    /** Called by the examples. */
    public static void due(String statement, String got, String want) {
        CHECK.is(statement, got, want);
    }

    private static void examples(List<String> readme, String classes, Path directory) throws Exception {
        CHECK.in("examples");
        StringBuilder source = new StringBuilder("public final class ReadmeExamples {\n    public static void run() {\n");
        int answers = 0;
        for (String line : codeOf(readme)) {
            Matcher answered = ANSWERED.matcher(line);
            if (answered.matches()) {
                answers++;
                source.append(dueOf(answered));
            } else if (UNANSWERED.matcher(line).matches()) {
                source.append(line).append('\n');
            } else {
                CHECK.wrong("no answer behind: " + line);
            }
        }
        source.append("    }\n}\n");
        Files.createDirectories(directory);
        Path file = directory.resolve("ReadmeExamples.java");
        Files.writeString(file, source.toString());
        int compiled = ToolProvider.getSystemJavaCompiler().run(null, null, null, "-cp", classes, "-d", directory.toString(),
                file.toString());
        CHECK.is("compiling the examples", compiled, 0);
        if (compiled == 0) {
            int before = CHECK.count();
            run(directory);
            CHECK.is("answers that were looked at", CHECK.count() - before, answers);
        }
    }

    private static void run(Path directory) throws Exception {
        URL[] where = {directory.toUri().toURL()};
        try (URLClassLoader loader = new URLClassLoader(where, ReadmeTest.class.getClassLoader())) {
            loader.loadClass("ReadmeExamples").getMethod("run").invoke(null);
        } catch (InvocationTargetException thrown) {
            CHECK.wrong("the examples threw " + thrown.getCause());
        }
    }

    private static List<String> codeOf(List<String> readme) {
        List<String> code = new ArrayList<>();
        boolean inside = false;
        for (String line : readme) {
            if (line.startsWith("```")) {
                inside = !inside;
            } else if (inside) {
                code.add(line);
            }
        }
        return code;
    }

    private static String dueOf(Matcher answered) {
        String call = answered.group(2);
        String want = answered.group(4) != null ? answered.group(4)
                : answered.group(3).matches("[A-Z]+") ? "CrewPairer." + answered.group(3) : answered.group(3);
        String name = "\"" + call.replace("\"", "\\\"") + "\"";
        if (answered.group(1) == null) {
            return "ReadmeTest.due(" + name + ", " + call + ", " + want + ");\n";
        }
        return "int " + answered.group(1) + " = " + call + ";\n"
                + "ReadmeTest.due(" + name + ", " + answered.group(1) + ", " + want + ");\n";
    }

    /** The rows of the table whose head begins with this word, each as its cells. */
    private static List<String[]> table(List<String> readme, String head) {
        List<String[]> rows = new ArrayList<>();
        boolean inside = false;
        for (String line : readme) {
            if (line.startsWith("| " + head + " |")) {
                inside = true;
            } else if (!line.startsWith("|")) {
                inside = false;
            } else if (inside && !line.startsWith("| ---")) {
                rows.add(line.substring(2, line.length() - 2).split(" \\| "));
            }
        }
        return rows;
    }

    private static void codes(List<String> readme, Doc doc) {
        CHECK.in("error codes");
        List<String[]> rows = table(readme, "Code");
        String[] others = {"-100 minus a reason -101 to -110", "-200 minus a position -200 to -260",
            "-300 minus a number -300 to -310"};
        CHECK.is("rows", rows.size(), CODES.length + others.length);
        for (int i = 0; i < rows.size(); i++) {
            String[] row = rows.get(i);
            if (i >= CODES.length) {
                CHECK.is("code and values", row[0] + " " + row[1], others[i - CODES.length]);
                continue;
            }
            CHECK.is("code", row[0], "`" + CODES[i] + "`");
            CHECK.is("value of " + row[0], row[1], "" + VALUES[i]);
            String sentence = "- `" + CODES[i] + " = " + VALUES[i] + "`: " + row[2];
            CHECK.is("whether the document says " + sentence, doc.quote("Description", sentence) ? 1 : 0, 1);
        }
    }

    /** The lowest answers of execute: the text has 60 characters, and "crew 6" is the shortest command that can fail. */
    private static void lowestAnswers() {
        CHECK.in("lowest answers");
        CHECK.is("an error position", executed("pair;".repeat(12)), -260);
        CHECK.is("a command that fails", executed("pair;".repeat(10) + "crew 6"), -310);
        CHECK.is("another one before it leaves no room", "pair;".repeat(11).length() + "crew 6".length(), 61);
    }

    private static int executed(String text) {
        CrewPairer pairer = new CrewPairer();
        for (int i = 0; i < text.length(); i++) {
            CHECK.is("feed", pairer.feed(text.charAt(i)), i + 1);
        }
        return pairer.execute();
    }

    private static void reasons(List<String> readme, Doc doc) {
        CHECK.in("reasons");
        List<String[]> rows = table(readme, "Reason");
        CHECK.is("rows", rows.size(), REASONS);
        for (int i = 0; i < rows.size(); i++) {
            int reason = i < 3 ? REASONS - i : i - 2;
            CHECK.is("reason", rows.get(i)[0], "" + reason);
            String words = reason + (i < 3 ? ", " : ": ") + rows.get(i)[1] + (i == 0 ? "; 9" : i == 1 ? "; 8" : i == 2 ? ";" : "");
            CHECK.is("whether the document says " + words, doc.quote("Description", words) ? 1 : 0, 1);
        }
    }

    private static void rules(List<String> readme) {
        CHECK.in("rules");
        List<String[]> rows = table(readme, "Rule");
        CHECK.is("rows", rows.size(), RULES);
        CrewPairer pairer = new CrewPairer();
        for (int rule = 0; rule < rows.size(); rule++) {
            String[] row = rows.get(rule);
            int least = Integer.parseInt(row[2]);
            int greatest = Integer.parseInt(row[3]);
            int initial = Integer.parseInt(row[4]);
            CHECK.is("rule", row[0], "" + rule);
            CHECK.is("initial value of " + rule, pairer.rule(rule), initial);
            CHECK.is("below the least value of " + rule, pairer.setRule(rule, least - 1), CrewPairer.BAD);
            CHECK.is("above the greatest value of " + rule, pairer.setRule(rule, greatest + 1), CrewPairer.BAD);
            CHECK.is("least value of " + rule, pairer.setRule(rule, least), initial);
            CHECK.is("greatest value of " + rule, pairer.setRule(rule, greatest), least);
        }
    }

    /** Each method of the class is shown once, with the names of its parameters. */
    private static void methods(List<String> readme) {
        CHECK.in("methods");
        List<String> shown = new ArrayList<>();
        for (String[] row : table(readme, "To")) {
            for (String method : row[1].split("`, `")) {
                shown.add(method.replace("`", ""));
            }
        }
        List<String> there = new ArrayList<>();
        for (String line : FaceTest.face()) {
            if (line.startsWith("public int ")) {
                there.add(line.substring("public int ".length(), line.length() - 1).replaceAll("(int|boolean) ", ""));
            }
        }
        Collections.sort(shown);
        Collections.sort(there);
        CHECK.is("methods", String.join(" ", shown), String.join(" ", there));
    }
}
