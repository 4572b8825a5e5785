import java.util.function.ToIntFunction;

/** The boundary cases of reports and commands: the promises 39 to 41. */
final class BoundaryTexts extends Refusals {
    private BoundaryTexts() {
    }

    /** Feeds a text and executes it. */
    private static ToIntFunction<CrewPairer> executing(String text) {
        return x -> {
            for (int i = 0; i < text.length(); i++) {
                x.feed(text.charAt(i));
            }
            return x.execute();
        };
    }

    /** some() with nothing in the buffer. */
    private static CrewPairer someWithoutText() {
        CrewPairer x = some();
        x.feed('!');
        is("the text is wrong", x.execute(), -204);
        return x;
    }

    /** The text has an error at this position, and nothing is done. */
    private static void error(String text, int position) {
        CrewPairer x = new CrewPairer();
        is("error position of \"" + text + "\"", run(x, text), -200 - position);
        is("legs and crews after \"" + text + "\"", x.legCount() + x.crewCount(), 0);
        is("changes after \"" + text + "\"", x.undo(), NONE);
    }

    /** The text has no error position; in a new pairer its last command fails, or none. */
    private static void right(String text, int answer) {
        is("execution of \"" + text + "\"", run(new CrewPairer(), text), answer);
    }

    private static String times(String text, int times) {
        return text.repeat(times);
    }

    @Sentence(of = "Description", says = "Reports. The text of a row consists of its items: for each the airports with \">\" between "
            + "them, a blank, the departure, \"-\", the arrival, a blank, and \"fly\" or \"ride\", then \";\".")
    static void descriptionTheTextOfARowHas0To24Items() {
        is("no item", text(fullest(), 5), "");
        is("one that is flown", text(some(), 0), "1>0 d0h1130-d0h1230 fly;");
        is("one that is ridden", text(some(), 1), "0>1 d0h0800-d0h0900 ride;");
        CrewPairer x = new CrewPairer();
        x.addCrew(0);
        x.addLeg(0, 5, 0, 1);
        x.addLeg(5, 0, 5998, 5999);
        x.ride(0, 0);
        x.fly(0, 1);
        is("the first and the last airport and time", text(x, 0), "0>5 d0h0000-d0h0001 ride;5>0 d4h0358-d4h0359 fly;");
        CrewPairer y = fullest();
        is("24 flown items of 24 characters", y.letter(0, -1), 576);
        for (int leg = 0; leg < 24; leg++) {
            y.ride(1, leg);
        }
        is("24 ridden items of 25 characters", y.letter(1, -1), 600);
        StringBuilder last = new StringBuilder();
        for (int i = 575; i < 600; i++) {
            last.append((char) y.letter(1, i));
        }
        is("the last item", last.toString(), "1>0 d1h1220-d1h1240 ride;");
    }

    @Sentence(of = "Description", says = "Times are written as \"d\", the day, which is the time divided by 1440, rounded down, \"h\", "
            + "two digits for the hours and two digits for the minutes of the day.")
    static void descriptionTimesAreDaysHoursAndMinutes() {
        int[] times = {0, 1, 9, 10, 59, 60, 599, 600, 1199, 1200, 1438, 1439, 1440, 1499, 1500, 2879, 2880, 4319, 4320, 5759,
            5760, 5998};
        String[] due = {"d0h0000", "d0h0001", "d0h0009", "d0h0010", "d0h0059", "d0h0100", "d0h0959", "d0h1000", "d0h1959",
            "d0h2000", "d0h2358", "d0h2359", "d1h0000", "d1h0059", "d1h0100", "d1h2359", "d2h0000", "d2h2359", "d3h0000",
            "d3h2359", "d4h0000", "d4h0358"};
        for (int i = 0; i < times.length; i++) {
            CrewPairer x = new CrewPairer();
            x.addCrew(0);
            x.addLeg(0, 1, times[i], times[i] + 1);
            x.ride(0, 0);
            is("departure at " + times[i], text(x, 0).substring(4, 11), due[i]);
            if (i + 1 < times.length && times[i + 1] == times[i] + 1) {
                is("arrival at " + times[i + 1], text(x, 0).substring(12, 19), due[i + 1]);
            }
        }
    }

    @Sentence(of = "Description",
            says = "Commands. The text buffer has at most 60 characters with codes from 32 to 126, initially none.")
    static void descriptionTheBufferHas0To60Characters() {
        is("initially none", new CrewPairer().execute(), -200);
        CrewPairer x = new CrewPairer();
        is("code 31", x.feed(31), BAD);
        is("code 127", x.feed(127), BAD);
        for (int i = 1; i <= 60; i++) {
            is("code", x.feed(i % 2 == 0 ? 32 : 126), i);
        }
        is("one more", x.feed(32), FULL);
        is("the first one is wrong", x.execute(), -200);
        is("none again", x.execute(), -200);
        right(FULL_TEXT.replace("late 23 0000", "drop 23 0000"), -304);
        is("60 characters, all right", run(shuttle(0), FULL_TEXT.replace("late 23 0000", "late 03 0000")), 5);
    }

    @Sentence(of = "Description", says = "A command text consists of one or more commands, separated by semicolons.")
    static void descriptionATextHas1To12Commands() {
        error("", 0);
        right("pair", 1);
        right("repair", 1);
        right("pair;repair", 2);
        right(times("pair;", 11) + "pair", 12);
        error(";", 0);
        error("pair;", 5);
        error("pair;;", 5);
        error(";pair", 0);
        error("pair;;pair", 5);
        error("pair:pair", 4);
        error("pair,pair", 4);
        error("crew 0;;crew 1", 7);
    }

    @Sentence(of = "Description",
            says = "A command is a word and numbers of 1 to 4 digits, a single blank before each and no other ones:")
    static void descriptionNumbersHave1To4DigitsAndABlankBefore() {
        right("crew 5", 1);
        right("crew 05", 1);
        right("crew 0005", 1);
        error("crew 00005", 9);
        error("crew ", 5);
        error("crew ;", 5);
        error("crew", 4);
        error("crew5", 4);
        error("crew  5", 5);
        error(" crew 5", 0);
        error("crew 5 ", 6);
        error("crew 5 ;pair", 6);
        error("crew 5; pair", 7);
        error("pair ", 4);
        error("pair ;pair", 4);
        right("rule 7 9999", 1);
        error("rule 7 10000", 11);
        error("rule 7  9", 7);
        error("rule 00007 9", 9);
        right("crew 6", -300);
        right("crew 9999", -300);
        error("crew -1", 5);
        error("crew +1", 5);
        error("crew /", 5);
        error("crew :", 5);
        error("crew 1/", 6);
        error("crew 1:", 6);
        error("late 0 -5", 7);
    }

    @Sentence(of = "Description", says = "\"leg\" and 4 numbers for addLeg, \"crew\" and 1 for addCrew, \"fly\", \"ride\" and \"drop\" "
            + "and 2, \"late\" and 2 for delay, \"cancel\" and 1, \"rule\" and 2 for setRule, \"pair\" and \"repair\" without any.")
    static void descriptionEachCommandHasItsNumbers() {
        String[] words = {"leg", "crew", "fly", "ride", "drop", "late", "cancel", "rule", "pair", "repair"};
        int[] numbers = {4, 1, 2, 2, 2, 2, 1, 2, 0, 0};
        String[] fitting = {"leg 3 4 5990 5999", "crew 5", "fly 1 3", "ride 1 3", "drop 0 1", "late 5 600", "cancel 5", "rule 7 0",
            "pair", "repair"};
        for (int word = 0; word < words.length; word++) {
            String text = words[word] + times(" 0", numbers[word]);
            if (numbers[word] > 0) {
                error(words[word], words[word].length());
                error(words[word] + times(" 0", numbers[word] - 1), text.length() - 2);
                error(words[word] + times(" 0", numbers[word] - 1) + " ", text.length() - 1);
                error(words[word] + times(" 0", numbers[word] - 1) + ";", text.length() - 2);
            }
            error(text + " ", text.length());
            error(text + " 0", text.length());
            error(text + ";", text.length() + 1);
            is(fitting[word], executing(fitting[word]).applyAsInt(someWithoutText()), 1);
            is(fitting[word] + " and pair twice",
                    executing(fitting[word] + ";pair;pair").applyAsInt(someWithoutText()), 3);
        }
        CrewPairer x = someWithoutText();
        executing("leg 3 4 5990 5999").applyAsInt(x);
        is("leg", x.leg(7, 0) + x.leg(7, 1) * 10 + x.leg(7, 2) * 100 + x.leg(7, 3) * 1000, 3 + 40 + 599000 + 5999000);
        executing("crew 2").applyAsInt(x);
        is("crew", x.crewCount(), 4);
        executing("fly 1 3").applyAsInt(x);
        is("fly", row(x, 1), "r0 f3");
        executing("ride 0 0").applyAsInt(x);
        is("ride", row(x, 0), "r0 f1");
        executing("drop 0 1").applyAsInt(x);
        is("drop", row(x, 0), "r0");
        executing("late 0 1").applyAsInt(x);
        is("late", x.leg(0, 2), 481);
        executing("cancel 0").applyAsInt(x);
        is("cancel", x.leg(0, 4), 1);
        executing("rule 0 10").applyAsInt(x);
        is("rule", x.rule(0), 10);
        executing("repair").applyAsInt(x);
        is("repair", repaired(x), "1f3:2");
        executing("pair").applyAsInt(x);
        is("pair", x.openCount(), 2);
    }

    @Sentence(of = "Description", says = "The error position is the index of the first character that cannot continue a command "
            + "text, or the length of the text if it ends too early;")
    static void descriptionErrorPositionsAre0To60() {
        error("~", 0);
        error("pair~", 4);
        error("pair;~", 5);
        error("leg 1 2 3 4~", 11);
        error("leg 1 2 3 ", 10);
        error("leg 1 2 3", 9);
        error("leg 1 2 3;", 9);
        error("leg", 3);
        error("leg ", 4);
        error(times("pair;", 12), 60);
        error(times("pair;", 11) + "pair ", 59);
        error(times("pair;", 11) + "crew", 59);
        error(times("pair;", 11) + "crew ", 60);
        error(times("pair;", 10) + "crew 00000", 59);
        error(times("repair;", 8) + "crew", 60);
        error("~" + times("pair;", 11), 0);
        error("fly 1 2 3", 7);
        error("fly 1 2pair", 7);
        error("pair1", 4);
        error("pairA", 4);
        error("pair`", 4);
        error("pair{", 4);
    }

    @Sentence(of = "Description", says = "a word that is none of these is an error at its first letter, also at the end of the text, "
            + "where a word consists of all lower case letters that follow.")
    static void descriptionAWrongWordIsAnErrorAtItsFirstLetter() {
        String[] words = {"leg", "crew", "fly", "ride", "drop", "late", "cancel", "rule", "pair", "repair"};
        for (String word : words) {
            for (int length = 1; length < word.length(); length++) {
                error(word.substring(0, length), 0);
                error("pair;" + word.substring(0, length), 5);
                error(word.substring(0, length) + " 0 0", 0);
                error(word.substring(0, length) + ";pair", 0);
            }
            error(word + "s", 0);
            error(word + "a 0 0", 0);
            error(word + "z 0 0", 0);
            error("pair;" + word + word, 5);
            error(word.toUpperCase(), 0);
            error(word.substring(0, 1).toUpperCase() + word.substring(1), 0);
        }
        for (int word = 0; word < words.length; word++) {
            for (int i = 0; i < words[word].length(); i++) {
                error("pair;" + words[word].substring(0, i) + "x" + words[word].substring(i + 1) + " 0 0", 5);
            }
        }
        error("undo", 0);
        error("a", 0);
        error("z", 0);
        error("`", 0);
        error("{", 0);
        error("pair;1", 5);
        error("pair; ", 5);
        error("repairs;pair", 0);
        error(times("pair;", 11) + "pairs", 55);
        error(times("pair;", 11) + "p", 55);
        error(times("z", 60), 0);
    }

    @Sentence(of = "Promise 39", says = {"Returns a character of the text of a row.", "- `crew`: the crew",
        "- `i`: the position, from 0, or -1 for the length",
        "Returns the character, or the length; BAD if there is no such crew; NONE if there is no such position."})
    static void promise39PositionsAreThoseOfTheTextOrMinus1() {
        is("the length", some().letter(0, -1), 24);
        is("the first", some().letter(0, 0), '1');
        is("the last", some().letter(0, 23), ';');
        for (int wrong : new int[] {-2, 24, 600, LOW, HIGH}) {
            refused("position " + wrong, Begin.SOME, x -> x.letter(0, wrong), NONE);
        }
        is("the length of no items", fullest().letter(5, -1), 0);
        is("no first one", fullest().letter(5, 0), NONE);
        CrewPairer x = fullest();
        for (int leg = 0; leg < 24; leg++) {
            x.ride(5, leg);
        }
        is("the last of all", x.letter(5, 599), ';');
        is("the one before", x.letter(5, 598), 'e');
        is("behind the last of all", x.letter(5, 600), NONE);
        is("a shorter one then", x.letter(0, 576), NONE);
        is("an empty one then", x.letter(1, 0), NONE);
        for (int wrong : new int[] {-1, 3, 6, LOW, HIGH}) {
            refused("crew " + wrong, Begin.SOME, y -> y.letter(wrong, -1), BAD);
        }
    }

    @Sentence(of = "Promise 40", says = {"Appends a character to the text buffer.", "- `letter`: the character, 32 to 126",
        "Returns the number of characters in the buffer; BAD if letter is out of range;"})
    static void promise40LettersAre32To126() {
        CrewPairer x = new CrewPairer();
        is("32", x.feed(32), 1);
        is("126", x.feed(126), 2);
        for (int wrong : new int[] {31, 127, 0, -1, 32 + 256, 65536 + 32, LOW, HIGH}) {
            for (Begin begin : Begin.values()) {
                refused("letter " + wrong, begin, y -> y.feed(wrong), BAD);
            }
        }
    }

    @Sentence(of = "Promise 40", says = "FULL if there are 60 characters.")
    static void promise40With60CharactersItIsFull() {
        CrewPairer x = new CrewPairer();
        for (int i = 1; i <= 60; i++) {
            is("character " + i, x.feed(FULL_TEXT.charAt(i - 1)), i);
        }
        is("character 61", x.feed(';'), FULL);
        for (int letter : new int[] {32, 126, ';', '0'}) {
            refused("character 61", Begin.FULLEST, y -> y.feed(letter), FULL);
        }
        refused("BAD is mentioned before FULL", Begin.FULLEST, y -> y.feed(127), BAD);
        CrewPairer y = fullest();
        is("the full text", y.execute(), 5);
        is("room again", y.feed(';'), 1);
    }

    @Sentence(of = "Promise 41", says = "Executes the commands in the buffer in their order. The buffer is empty afterwards in any "
            + "case.")
    static void promise41TheBufferIsEmptyAfterwards() {
        CrewPairer x = new CrewPairer();
        is("in their order", run(x, "crew 0;leg 0 1 0 60;fly 0 0;drop 0 0;ride 0 0"), 5);
        is("empty after all", x.feed('!'), 1);
        is("an error position", x.execute(), -200);
        is("empty after that", x.feed('c'), 1);
        feedRest(x, "rew 6");
        is("a command that fails", x.execute(), -300);
        is("empty after that", x.execute(), -200);
        is("empty after nothing", x.feed('!'), 1);
        CrewPairer y = fullest();
        y.execute();
        is("empty after 60 characters", y.feed('!'), 1);
        CrewPairer w = new CrewPairer();
        is("a text", run(w, "crew 1;crew 2"), 2);
        is("does not continue a shorter one that ends in a word", run(w, "crew"), -204);
        is("nor one that ends behind a blank", run(w, "crew "), -205);
        is("nor one that ends behind a semicolon", run(w, "crew 3;"), -207);
        is("nor one that is right", run(w, "crew 3"), 1);
        is("nor nothing", w.execute(), -200);
        CrewPairer z = fullest();
        z.undo();
        is("undo does not empty it", z.feed('!'), FULL);
    }

    private static void feedRest(CrewPairer x, String text) {
        for (int i = 0; i < text.length(); i++) {
            is("feed", x.feed(text.charAt(i)), i + 2);
        }
    }

    @Sentence(of = "Promise 41", says = {
        "If a command returns an error code, none of them has an effect on legs, crews and rules.",
        "-300 minus the number of the first command that returns an error code, from 0."})
    static void promise41ACommandThatFailsUndoesAllBefore() {
        String[] before = {"", "leg 3 4 5990 5999;", "crew 5;", "fly 1 3;", "ride 1 3;", "drop 0 1;", "late 5 600;", "cancel 5;",
            "rule 7 0;", "pair;", "pair;rule 0 10;crew 0;late 0 1;"};
        int[] number = {0, 1, 1, 1, 1, 1, 1, 1, 1, 1, 4};
        String[] failing = {"leg 0 0 1 2", "leg 0 1 720 721", "crew 6", "fly 0 1", "fly 3 0", "ride 0 1", "ride 2 6", "drop 0 2",
            "drop 0 9", "late 0 601", "late 9 0", "late 0 240", "cancel 6", "cancel 9", "rule 0 9", "rule 8 0", "rule 7 9999;crew 9"};
        for (int i = 0; i < before.length; i++) {
            String text = before[i] + failing[i];
            refused(text, BoundaryTexts::someWithoutText, executing(text), -300 - number[i]);
            refused(text + ";pair", BoundaryTexts::someWithoutText, executing(text + ";pair"), -300 - number[i]);
        }
        for (String text : failing) {
            int due = text.contains(";") ? -301 : -300;
            is(text, executing(text).applyAsInt(someWithoutText()), due);
        }
        is("the eleventh", run(new CrewPairer(), times("pair;", 10) + "crew 6"), -310);
        is("of two that fail the first one", run(new CrewPairer(), "pair;crew 6;crew 7"), -301);
        CrewPairer x = new CrewPairer();
        is("24 legs", fillLegs(x), 23);
        is("FULL is an error code, too", run(x, "cancel 0;leg 4 5 0 1"), -301);
        is("not cancelled", x.leg(0, 4), 0);
    }

    private static int fillLegs(CrewPairer x) {
        int leg = 0;
        for (int i = 0; i < 24; i++) {
            leg = x.addLeg(0, 1, i, 100);
        }
        return leg;
    }

    @Sentence(of = "Promise 41", says = "Returns the number of commands; -200 minus the error position if the text has one;")
    static void promise41CommandsAre1To12() {
        for (int commands = 1; commands <= 12; commands++) {
            is("commands", run(new CrewPairer(), times("pair;", commands - 1) + "pair"), commands);
        }
        for (String text : new String[] {"", "crew 1;", "crew 1;x", "cancel 1 ", "pair;repair;fly 0 0;late 1 1;~"}) {
            refused("text \"" + text + "\"", BoundaryTexts::someWithoutText, executing(text),
                    -200 - (text.endsWith(";") ? text.length() : Math.max(0, text.length() - 1)));
        }
        is("an error position behind a command that would fail", run(new CrewPairer(), "crew 6;x"), -207);
    }
}
