import java.util.Random;

/** Runs of calls, drawn with fixed seeds, on the program and on the model: all answers must agree. */
public final class ModelTest {
    private static final int RUNS = 2500;
    // An object is used for at most 512 calls, and a command text takes up to 61.
    private static final int CALLS = 430;
    private static final int ALL_CALLS = 512;
    // A change while a text is fed may ask for 6 rows of 24 items, too.
    private static final int ROOM_FOR_MORE = 300;
    private static final int COMMAND = 14;
    // The model tries all sequences of legs for a best pairing.
    private static final int SLOW = 11;

    private static final int LOW = Integer.MIN_VALUE;
    private static final int HIGH = Integer.MAX_VALUE;

    private static final String[] WORDS =
            {"leg", "crew", "fly", "ride", "drop", "late", "cancel", "rule", "pair", "repair"};
    private static final int[] NUMBERS = {4, 1, 2, 2, 2, 2, 1, 2, 0, 0};

    private final Check check;
    private final int seed;
    private final Random random;
    private final CrewPairer program = new CrewPairer();
    private final Model model = new Model();
    private final StringBuilder calls = new StringBuilder();
    private final int airports;
    /** Whether long legs are moved over each other, in long rows with deadheads and with many reserves. */
    private final boolean tangled;
    private int made;
    private boolean wrong;

    private ModelTest(Check check, int seed) {
        this.check = check;
        this.seed = seed;
        random = new Random(seed);
        tangled = seed % 4 == 3;
        airports = 2 + random.nextInt(tangled ? 2 : 3);
    }

    public static void main(String[] args) {
        Check check = new Check();
        for (int seed = 0; seed < RUNS; seed++) {
            new ModelTest(check, seed).run();
        }
        check.end("ModelTest");
    }

    private void run() {
        int begin = 4 + random.nextInt(40);
        int changes = 1 + random.nextInt(10);
        if (tangled) {
            widen();
        }
        while (made < CALLS && !wrong) {
            if (made < begin) {
                begin();
            } else if (random.nextInt(10) < changes) {
                change();
            } else {
                question();
            }
        }
    }

    /** Sets rules under which rows become long. */
    private void widen() {
        int[] values = {pick(10, 30), pick(300, 300, 600), 960, 720, 8, 1200, pick(0, 1, 10), 500};
        for (int rule = 0; rule < values.length; rule++) {
            compare("setRule(" + rule + ", " + values[rule] + ")",
                    program.setRule(rule, values[rule]), model.setRule(rule, values[rule]));
        }
    }

    private void compare(String call, int got, int due) {
        if (wrong) {
            return;
        }
        made++;
        calls.append(call).append(" = ").append(due).append("; ");
        if (got != due) {
            wrong = true;
            check.wrong("seed " + seed + ": " + calls + " but the program answered " + got);
        } else {
            check.is(call, got, due);
        }
    }

    private int pick(int... values) {
        return values[random.nextInt(values.length)];
    }

    private int upTo(int most) {
        return random.nextInt(most + 1);
    }

    private int aCrew() {
        return random.nextInt(40) == 0 ? pick(-1, model.crewCount(), 6, LOW, HIGH) : random.nextInt(Math.max(1, model.crewCount()));
    }

    private int aLeg() {
        return random.nextInt(40) == 0 ? pick(-1, model.legCount(), 24, LOW, HIGH) : random.nextInt(Math.max(1, model.legCount()));
    }

    /** An open leg mostly, so that changes have something to do. */
    private int aFreeLeg() {
        int open = model.openCount();
        return open == 0 || random.nextInt(5) == 0 ? aLeg() : model.open(random.nextInt(open));
    }

    private int what(int most) {
        return random.nextInt(40) == 0 ? pick(-1, most + 1, LOW, HIGH) : upTo(most);
    }

    private void begin() {
        if (random.nextInt(5) == 0) {
            addCrew();
        } else {
            int[] l = aNewLeg();
            compare("addLeg(" + l[0] + ", " + l[1] + ", " + l[2] + ", " + l[3] + ")",
                    program.addLeg(l[0], l[1], l[2], l[3]), model.addLeg(l[0], l[1], l[2], l[3]));
        }
    }

    private void addCrew() {
        int base = random.nextInt(20) == 0 ? pick(-1, 6) : random.nextInt(airports);
        compare("addCrew(" + base + ")", program.addCrew(base), model.addCrew(base));
    }

    /** A leg that mostly goes on from where another one ends, at a time that is close to a limit. */
    private int[] aNewLeg() {
        int from = random.nextInt(airports);
        int departure = upTo(random.nextBoolean() ? 5999 : 1500);
        if (model.legCount() > 0 && random.nextInt(10) < 7) {
            int before = random.nextInt(model.legCount());
            from = model.leg(before, 1);
            int connection = model.rule(0);
            int rest = model.rule(1);
            departure = model.leg(before, 3) + pick(-1, 0, 1, connection - 1, connection, connection + 1, 45, 60, 100,
                    rest - 1, rest, rest + 1, rest + 100, upTo(900));
        }
        int to = random.nextInt(30) == 0 ? from : (from + 1 + random.nextInt(airports - 1)) % airports;
        int length = pick(1, 20, 60, 60, 90, 120, 120, 240, 1 + upTo(500), pick(0, 480, 481, 600, 601));
        if (tangled) {
            length = pick(5, 10, 20, 60, 200, 300);
        }
        return new int[] {from, to, departure, departure + length};
    }

    private void change() {
        change(tangled && random.nextInt(3) == 0 ? pick(4, 7, 11, 13) : upTo(16));
    }

    private void change(int kind) {
        int crew = aCrew();
        int leg = aFreeLeg();
        switch (kind) {
            case 0 -> begin();
            case 1, 2, 3 -> compare("fly(" + crew + ", " + leg + ")", program.fly(crew, leg), model.fly(crew, leg));
            case 4, 5 -> {
                int any = random.nextBoolean() ? leg : aLeg();
                compare("ride(" + crew + ", " + any + ")", program.ride(crew, any), model.ride(crew, any));
            }
            case 6 -> {
                int any = aLeg();
                compare("drop(" + crew + ", " + any + ")", program.drop(crew, any), model.drop(crew, any));
            }
            case 7, 8 -> delay();
            case 9 -> {
                int any = aLeg();
                if (random.nextInt(3) == 0) {
                    compare("cancel(" + any + ")", program.cancel(any), model.cancel(any));
                }
            }
            case 10 -> setRule();
            case 11 -> setReserve(crew);
            case 12 -> {
                if (random.nextInt(3) == 0) {
                    compare("pair()", program.pair(), model.pair());
                    rows();
                } else if (model.candidates(crew) < SLOW) {
                    compare("takeBest(" + crew + ")", program.takeBest(crew), model.takeBest(crew));
                    items(crew);
                }
            }
            case 13 -> {
                int removed = model.repair();
                compare("repair()", program.repair(), removed);
                for (int i = 0; i < removed; i++) {
                    repaired(i, 1);
                    repaired(i, 3);
                }
                if (removed > 0) {
                    rows();
                }
            }
            case COMMAND -> command();
            case 15 -> compare("undo()", program.undo(), model.undo());
            default -> {
                if (random.nextInt(3) == 0) {
                    compare("restore()", program.restore(), model.restore());
                } else {
                    compare("save()", program.save(), model.save());
                }
            }
        }
    }

    private void delay() {
        int leg = aLeg();
        int minutes = random.nextInt(20) == 0 ? pick(-601, 601, -600, 600) : pick(0, 1, -1, 5, -20, 60, 150, -100);
        if (leg >= 0 && leg < model.legCount() && random.nextInt(3) == 0) {
            int other = aLeg();
            minutes = Math.max(0, model.leg(other, 2)) - model.leg(leg, 2);
            minutes += tangled ? pick(-40, 0, 5, 20, 40) : 0;
        }
        compare("delay(" + leg + ", " + minutes + ")", program.delay(leg, minutes), model.delay(leg, minutes));
    }

    private void setRule() {
        int rule = what(7);
        int value = switch (rule) {
            case 0 -> pick(9, 10, 30, 60, 120, 121);
            case 1 -> pick(299, 300, 301, 600, 900, 901);
            case 2 -> pick(299, 300, 500, 720, 960, 961);
            case 3 -> pick(119, 120, 300, 480, 720, 721);
            case 4 -> pick(0, 1, 2, 3, 8, 8, 9);
            case 5 -> pick(119, 120, 400, 600, 900, 1200, 1200, 1201);
            case 6 -> pick(-1, 0, 0, 1, 99, 100);
            default -> pick(-1, 0, 7, 9999, 10000);
        };
        compare("setRule(" + rule + ", " + value + ")", program.setRule(rule, value), model.setRule(rule, value));
    }

    private void setReserve(int crew) {
        int start = random.nextInt(20) == 0 ? pick(-1, 6000) : pick(0, 5999, upTo(1000), upTo(5999));
        int end = pick(start, start + 1, 6000, 6000, random.nextInt(5) == 0 ? 6001 : 6000, upTo(6000), start - 1);
        if (random.nextInt(3) == 0 && model.openCount() > 0) {
            int leg = model.open(random.nextInt(model.openCount()));
            start = Math.max(0, model.leg(leg, 2) - pick(119, 120, 121));
            end = model.leg(leg, 3) + pick(-1, 0, 1);
        }
        compare("setReserve(" + crew + ", " + start + ", " + end + ")",
                program.setReserve(crew, start, end), model.setReserve(crew, start, end));
    }

    /** A text of commands that are mostly right, with a wrong character now and then. */
    private void command() {
        StringBuilder text = new StringBuilder();
        int commands = 1 + upTo(3);
        for (int i = 0; i < commands; i++) {
            text.append(i > 0 ? ";" : "").append(aCommand());
        }
        if (random.nextInt(3) == 0) {
            int at = upTo(text.length());
            String sign = "" + pick(' ', ';', '0', '9', 'a', 'r', 'A', '~', '-', 's');
            sign = "" + (char) Integer.parseInt(sign);
            switch (upTo(2)) {
                case 0 -> text.insert(at, sign);
                case 1 -> text.setLength(at);
                default -> text.replace(at, Math.min(text.length(), at + 1), sign);
            }
        }
        calls.append('"').append(text).append("\" ");
        for (int i = 0; i < text.length(); i++) {
            int letter = text.charAt(i);
            if (random.nextInt(60) == 0) {
                interlude();
            }
            compare("feed(" + letter + ")", program.feed(letter), model.feed(letter));
        }
        compare("execute()", program.execute(), model.execute());
    }

    /** What is called while a text is fed must leave the text alone. */
    private void interlude() {
        int kind = upTo(16);
        if (kind == COMMAND || random.nextInt(3) == 0) {
            question();
        } else if (made < ROOM_FOR_MORE) {
            change(kind);
        }
    }

    private String aCommand() {
        int word = upTo(9);
        StringBuilder text = new StringBuilder(WORDS[word]);
        int[] numbers = {aCrew(), aFreeLeg(), 0, 0};
        switch (word) {
            case 0 -> numbers = aNewLeg();
            case 1 -> numbers[0] = upTo(6);
            case 5 -> numbers = new int[] {aLeg(), pick(0, 10, 60, 600, 601)};
            case 6 -> numbers[0] = aLeg();
            case 7 -> numbers = new int[] {upTo(8), pick(1, 30, 120, 400, 600, 9999)};
            default -> { }
        }
        for (int i = 0; i < NUMBERS[word]; i++) {
            String digits = "" + Math.max(0, numbers[i]);
            text.append(' ').append(random.nextInt(10) == 0 ? "0" : "").append(digits);
        }
        return text.toString();
    }

    private void question() {
        int crew = aCrew();
        int leg = random.nextBoolean() ? aLeg() : aFreeLeg();
        int i = pick(-1, 0, 0, 1, 1, 2, 3, upTo(24));
        boolean flies = random.nextBoolean();
        switch (upTo(25)) {
            case 0 -> compare("legCount()", program.legCount(), model.legCount());
            case 1 -> compare("crewCount()", program.crewCount(), model.crewCount());
            case 2 -> {
                int what = what(5);
                compare("leg(" + leg + ", " + what + ")", program.leg(leg, what), model.leg(leg, what));
            }
            case 3 -> {
                int rule = what(7);
                compare("rule(" + rule + ")", program.rule(rule), model.rule(rule));
            }
            case 4, 5 -> compare("reason(" + crew + ", " + leg + ", " + flies + ")",
                    program.reason(crew, leg, flies), model.reason(crew, leg, flies));
            case 6 -> compare("place(" + crew + ", " + leg + ", " + flies + ")",
                    program.place(crew, leg, flies), model.place(crew, leg, flies));
            case 7 -> compare("itemCount(" + crew + ")", program.itemCount(crew), model.itemCount(crew));
            case 8 -> item(crew, i, what(2));
            case 9 -> compare("dutyCount(" + crew + ")", program.dutyCount(crew), model.dutyCount(crew));
            case 10 -> {
                int what = what(3);
                compare("duty(" + crew + ", " + i + ", " + what + ")", program.duty(crew, i, what), model.duty(crew, i, what));
            }
            case 11 -> compare("violationCount(" + crew + ")", program.violationCount(crew), model.violationCount(crew));
            case 12 -> {
                int what = what(1);
                compare("violation(" + crew + ", " + i + ", " + what + ")",
                        program.violation(crew, i, what), model.violation(crew, i, what));
            }
            case 13 -> compare("minutes(" + crew + ")", program.minutes(crew), model.minutes(crew));
            case 14 -> within(crew, leg);
            case 15 -> compare("home(" + crew + ")", program.home(crew), model.home(crew));
            case 16 -> compare("pairings(" + crew + ")", program.pairings(crew), model.pairings(crew));
            case 17 -> {
                int what = what(2);
                int whose = random.nextInt(4) == 0 ? -1 : crew;
                compare("cost(" + whose + ", " + what + ")", program.cost(whose, what), model.cost(whose, what));
            }
            case 18 -> compare("openCount()", program.openCount(), model.openCount());
            case 19 -> compare("open(" + i + ")", program.open(i), model.open(i));
            case 20 -> {
                int what = what(1);
                compare("reserve(" + crew + ", " + what + ")", program.reserve(crew, what), model.reserve(crew, what));
            }
            case 21 -> compare("called(" + leg + ")", program.called(leg), model.called(leg));
            case 22 -> {
                int what = what(2);
                compare("offer(" + leg + ", " + what + ")", program.offer(leg, what), model.offer(leg, what));
            }
            case 23 -> repaired(i, what(3));
            case 24 -> best(crew, i);
            default -> {
                int at = pick(-1, upTo(30), upTo(120), model.letter(crew, -1), -2);
                compare("letter(" + crew + ", " + at + ")", program.letter(crew, at), model.letter(crew, at));
            }
        }
    }

    private void repaired(int i, int what) {
        if (made < ALL_CALLS) {
            compare("repaired(" + i + ", " + what + ")", program.repaired(i, what), model.repaired(i, what));
        }
    }

    private void item(int crew, int i, int what) {
        if (made < ALL_CALLS) {
            compare("item(" + crew + ", " + i + ", " + what + ")", program.item(crew, i, what), model.item(crew, i, what));
        }
    }

    private void items(int crew) {
        int count = model.itemCount(crew);
        for (int i = 0; i < count; i++) {
            item(crew, i, 0);
        }
    }

    private void rows() {
        for (int crew = 0; crew < model.crewCount(); crew++) {
            items(crew);
        }
    }

    private void within(int crew, int leg) {
        int start = upTo(5999);
        if (leg >= 0 && leg < model.legCount()) {
            start = Math.max(0, model.leg(leg, 2) + pick(-10, -1, 0, 1, 10));
        }
        start = random.nextInt(20) == 0 ? pick(-1, 0, 5999, 6000) : start;
        int length = pick(1, 2, 30, 60, 100, 1440, 5999, 6000, random.nextInt(5) == 0 ? 0 : 6, 6001);
        compare("within(" + crew + ", " + start + ", " + length + ")",
                program.within(crew, start, length), model.within(crew, start, length));
    }

    private void best(int crew, int i) {
        if (model.candidates(crew) < SLOW) {
            compare("bestMinutes(" + crew + ")", program.bestMinutes(crew), model.bestMinutes(crew));
            compare("bestLeg(" + crew + ", " + i + ")", program.bestLeg(crew, i), model.bestLeg(crew, i));
        }
    }
}
