/** What the tests ask of a pairer, as short texts, and the pairers that they often begin with. */
abstract class Asking {
    static final int BAD = -1;
    static final int NONE = -2;
    static final int FULL = -3;
    static final int DUPLICATE = -4;
    static final int RANGE = -5;
    static final int LOW = Integer.MIN_VALUE;
    static final int HIGH = Integer.MAX_VALUE;
    static final int[] RULE_LEAST = {10, 300, 300, 120, 1, 120, 0, 0};
    static final int[] RULE_MOST = {120, 900, 960, 720, 8, 1200, 99, 9999};
    static final int[] RULE_FIRST = {30, 600, 720, 480, 4, 600, 10, 500};

    static final Check CHECK = new Check();

    static void is(String what, long got, long want) {
        CHECK.is(what, got, want);
    }

    static void is(String what, String got, String want) {
        CHECK.is(what, got, want);
    }

    static void feedAll(CrewPairer x, String text) {
        for (int i = 0; i < text.length(); i++) {
            is("feed of \"" + text + "\" at " + i, x.feed(text.charAt(i)), i + 1);
        }
    }

    static int run(CrewPairer x, String text) {
        feedAll(x, text);
        return x.execute();
    }

    static String text(CrewPairer x, int crew) {
        StringBuilder text = new StringBuilder();
        int length = x.letter(crew, -1);
        for (int i = 0; i < length; i++) {
            text.append((char) x.letter(crew, i));
        }
        return text.toString();
    }

    /** The items of a row: "f" or "r" and the leg. */
    static String row(CrewPairer x, int crew) {
        StringBuilder text = new StringBuilder();
        for (int i = 0; i < x.itemCount(crew); i++) {
            text.append(i > 0 ? " " : "").append(x.item(crew, i, 1) == 1 ? "f" : "r").append(x.item(crew, i, 0));
        }
        return text.toString();
    }

    /** The violations of a row: kind, "@" and place. */
    static String violations(CrewPairer x, int crew) {
        StringBuilder text = new StringBuilder();
        for (int i = 0; i < x.violationCount(crew); i++) {
            text.append(i > 0 ? " " : "").append(x.violation(crew, i, 0)).append('@').append(x.violation(crew, i, 1));
        }
        return text.toString();
    }

    static String open(CrewPairer x) {
        StringBuilder text = new StringBuilder();
        for (int i = 0; x.open(i) >= 0; i++) {
            text.append(i > 0 ? " " : "").append(x.open(i));
        }
        return text.toString();
    }

    /** The removed items: crew, "f" or "r", leg, ":" and the reserve. */
    static String repaired(CrewPairer x) {
        StringBuilder text = new StringBuilder();
        for (int i = 0; x.repaired(i, 0) >= 0; i++) {
            text.append(i > 0 ? " " : "").append(x.repaired(i, 0)).append(x.repaired(i, 2) == 1 ? "f" : "r")
                    .append(x.repaired(i, 1)).append(':').append(x.repaired(i, 3));
        }
        return text.toString();
    }

    /** The minutes and the legs of a best pairing. */
    static String best(CrewPairer x, int crew) {
        StringBuilder text = new StringBuilder();
        text.append(x.bestMinutes(crew));
        for (int i = 0; i < x.bestLeg(crew, -1); i++) {
            text.append(' ').append(x.bestLeg(crew, i));
        }
        return text.toString();
    }

    /** Crew, other leg and price of the best offer. */
    static String offer(CrewPairer x, int leg) {
        return x.offer(leg, 0) + " " + x.offer(leg, 1) + " " + x.offer(leg, 2);
    }

    /** Rules under which hardly anything is a violation but for 1 to 3. */
    static CrewPairer wide() {
        CrewPairer x = new CrewPairer();
        x.setRule(2, 960);
        x.setRule(3, 720);
        x.setRule(4, 8);
        x.setRule(5, 1200);
        return x;
    }

    /** Legs 0 to 3 go from 0 to 1 and back, an hour each with an hour between them, from 480 on; crews at 0. */
    static CrewPairer shuttle(int crews) {
        CrewPairer x = new CrewPairer();
        for (int i = 0; i < 4; i++) {
            x.addLeg(i % 2, 1 - i % 2, 480 + 120 * i, 540 + 120 * i);
        }
        for (int i = 0; i < crews; i++) {
            x.addCrew(0);
        }
        return x;
    }
}
