/** A pairer of flight crews. The promises that it keeps are those of the document DOC.md. */
public final class CrewPairer {
    public static final int BAD = -1;
    public static final int NONE = -2;
    public static final int FULL = -3;
    public static final int DUPLICATE = -4;
    public static final int RANGE = -5;

    private static final int AIRPORTS = 6;
    private static final int LEGS = 24;
    private static final int CREWS = 6;
    private static final int RULES = 8;
    private static final int LAST_MINUTE = 5999;
    private static final int LONGEST_LEG = 600;
    private static final int LONGEST_DELAY = 600;
    private static final int DAY = 1440;
    private static final int RESERVE_NOTICE = 120;
    private static final int PAIRING_LEGS = 6;
    private static final int CHANGES = 8;
    private static final int ALL_CREWS = -1;
    private static final int SIZE = -1;

    // What a crew does with a leg.
    private static final int APART = 0;
    private static final int FLIES = 1;
    private static final int RIDES = 2;

    // The numbers of the rules.
    private static final int CONNECTION = 0;
    private static final int REST = 1;
    private static final int DUTY_SPAN = 2;
    private static final int DUTY_FLIGHT = 3;
    private static final int DUTY_LEGS = 4;
    private static final int WINDOW = 5;
    private static final int RIDE_COST = 6;
    private static final int NIGHT_COST = 7;
    private static final int[] RULE_LEAST = {10, 300, 300, 120, 1, 120, 0, 0};
    private static final int[] RULE_MOST = {120, 900, 960, 720, 8, 1200, 99, 9999};
    private static final int[] RULE_FIRST = {30, 600, 720, 480, 4, 600, 10, 500};

    // The kinds of violations that are named in the code, and the other reasons.
    private static final int KINDS = 7;
    private static final int WINDOW_KIND = 7;
    private static final int COVERED_REASON = 8;
    private static final int PRESENT_REASON = 9;
    private static final int CANCELLED_REASON = 10;

    // The commands, and how many numbers each has.
    private static final int TEXT = 60;
    private static final int COMMAND_NUMBERS = 4;
    private static final int COMMANDS = 10;
    private static final int LEG_COMMAND = 0;
    private static final int CREW_COMMAND = 1;
    private static final int FLY_COMMAND = 2;
    private static final int RIDE_COMMAND = 3;
    private static final int DROP_COMMAND = 4;
    private static final int LATE_COMMAND = 5;
    private static final int CANCEL_COMMAND = 6;
    private static final int RULE_COMMAND = 7;
    private static final int PAIR_COMMAND = 8;
    private static final int REPAIR_COMMAND = 9;
    private static final int[] NUMBERS = {4, 1, 2, 2, 2, 2, 1, 2, 0, 0};

    private final Plan plan;
    private final Plan before;
    private final Plan snapshot;
    private boolean saved;
    private final History history;
    private final Row row;
    private final Offer offered;
    private final Repairs repairs;
    private final Search search;
    private final Report report;
    private final Commands commands;

    public CrewPairer() {
        plan = new Plan();
        before = new Plan();
        snapshot = new Plan();
        saved = false;
        history = new History();
        row = new Row(plan);
        offered = new Offer();
        repairs = new Repairs();
        search = new Search(plan, row);
        report = new Report();
        commands = new Commands();
    }

    // ---- legs, crews and rules

    public int addLeg(int from, int to, int departure, int arrival) {
        before.copyFrom(plan);
        return kept(putLeg(from, to, departure, arrival));
    }

    public int addCrew(int base) {
        before.copyFrom(plan);
        return kept(putCrew(base));
    }

    public int legCount() {
        return plan.legCount;
    }

    public int crewCount() {
        return plan.crewCount;
    }

    public int leg(int leg, int what) {
        if (!plan.hasLeg(leg)) {
            return BAD;
        }
        switch (what) {
            case 0: return plan.from[leg];
            case 1: return plan.to[leg];
            case 2: return plan.departure[leg];
            case 3: return plan.arrival[leg];
            case 4: return plan.cancelled[leg];
            case 5: return plan.flyerOf(leg);
            default: return BAD;
        }
    }

    public int setRule(int rule, int value) {
        before.copyFrom(plan);
        return kept(changeRule(rule, value));
    }

    public int rule(int rule) {
        if (!isIn(rule, 0, RULES - 1)) {
            return BAD;
        }
        return plan.rules[rule];
    }

    // ---- assigning

    public int fly(int crew, int leg) {
        before.copyFrom(plan);
        return kept(take(crew, leg, FLIES));
    }

    public int ride(int crew, int leg) {
        before.copyFrom(plan);
        return kept(take(crew, leg, RIDES));
    }

    public int drop(int crew, int leg) {
        before.copyFrom(plan);
        return kept(leave(crew, leg));
    }

    public int reason(int crew, int leg, boolean flies) {
        if (!plan.hasCrew(crew) || !plan.hasLeg(leg)) {
            return BAD;
        }
        return reasonAgainst(crew, leg, flies ? FLIES : RIDES);
    }

    public int place(int crew, int leg, boolean flies) {
        if (!plan.hasCrew(crew) || !plan.hasLeg(leg)) {
            return BAD;
        }
        int reason = reasonAgainst(crew, leg, flies ? FLIES : RIDES);
        if (!isIn(reason, 1, KINDS)) {
            return NONE;
        }
        return row.places[0];
    }

    // ---- rows

    public int itemCount(int crew) {
        if (!plan.hasCrew(crew)) {
            return BAD;
        }
        row.load(crew);
        return row.count;
    }

    public int item(int crew, int i, int what) {
        if (!plan.hasCrew(crew) || !isIn(what, 0, 2)) {
            return BAD;
        }
        row.load(crew);
        if (!isIn(i, 0, row.count - 1)) {
            return NONE;
        }
        switch (what) {
            case 0: return row.legs[i];
            case 1: return row.flown[i] ? 1 : 0;
            default: return row.duties[i];
        }
    }

    public int dutyCount(int crew) {
        if (!plan.hasCrew(crew)) {
            return BAD;
        }
        row.load(crew);
        return row.dutyCount;
    }

    public int duty(int crew, int duty, int what) {
        if (!plan.hasCrew(crew) || !isIn(what, 0, 3)) {
            return BAD;
        }
        row.load(crew);
        if (!isIn(duty, 0, row.dutyCount - 1)) {
            return NONE;
        }
        switch (what) {
            case 0: return row.spanOf(duty);
            case 1: return row.flownMinutes[duty];
            case 2: return row.sizeOf(duty);
            default: return row.firsts[duty];
        }
    }

    public int violationCount(int crew) {
        if (!plan.hasCrew(crew)) {
            return BAD;
        }
        row.load(crew);
        return row.findViolations(KINDS * LEGS);
    }

    public int violation(int crew, int i, int what) {
        if (!plan.hasCrew(crew) || !isIn(what, 0, 1)) {
            return BAD;
        }
        row.load(crew);
        int found = row.findViolations(KINDS * LEGS);
        if (!isIn(i, 0, found - 1)) {
            return NONE;
        }
        return what == 0 ? row.kinds[i] : row.places[i];
    }

    public int minutes(int crew) {
        if (!plan.hasCrew(crew)) {
            return BAD;
        }
        return plan.minutesOf(crew);
    }

    public int within(int crew, int start, int length) {
        if (!plan.hasCrew(crew) || !isIn(start, 0, LAST_MINUTE) || !isIn(length, 1, LAST_MINUTE + 1)) {
            return BAD;
        }
        row.load(crew);
        return row.flownWithin(start, length);
    }

    public int home(int crew) {
        if (!plan.hasCrew(crew)) {
            return BAD;
        }
        row.load(crew);
        return row.isHome() ? 1 : 0;
    }

    public int pairings(int crew) {
        if (!plan.hasCrew(crew)) {
            return BAD;
        }
        row.load(crew);
        return row.pairingCount();
    }

    public int cost(int crew, int what) {
        if (!isIn(what, 0, 2) || crew != ALL_CREWS && !plan.hasCrew(crew)) {
            return BAD;
        }
        if (crew != ALL_CREWS) {
            return costOf(crew, what);
        }
        int sum = 0;
        for (int each = 0; each < plan.crewCount; each++) {
            sum += costOf(each, what);
        }
        return sum;
    }

    // ---- open legs, delays and reserves

    public int openCount() {
        int count = 0;
        for (int leg = 0; leg < plan.legCount; leg++) {
            if (plan.isOpen(leg)) {
                count++;
            }
        }
        return count;
    }

    public int open(int i) {
        int position = 0;
        for (int k = 0; k < plan.legCount; k++) {
            int leg = plan.order[k];
            if (plan.isOpen(leg)) {
                if (position == i) {
                    return leg;
                }
                position++;
            }
        }
        return NONE;
    }

    public int delay(int leg, int minutes) {
        before.copyFrom(plan);
        return kept(shift(leg, minutes));
    }

    public int cancel(int leg) {
        before.copyFrom(plan);
        return kept(strike(leg));
    }

    public int setReserve(int crew, int start, int end) {
        before.copyFrom(plan);
        return kept(changeReserve(crew, start, end));
    }

    public int reserve(int crew, int what) {
        if (!plan.hasCrew(crew) || !isIn(what, 0, 1)) {
            return BAD;
        }
        if (!plan.isReserve(crew)) {
            return NONE;
        }
        return what == 0 ? plan.starts[crew] : plan.ends[crew];
    }

    public int called(int leg) {
        if (!plan.hasLeg(leg)) {
            return BAD;
        }
        return reserveFor(leg);
    }

    // ---- pairing and repair

    public int pair() {
        before.copyFrom(plan);
        return kept(pairOpenLegs());
    }

    public int offer(int leg, int what) {
        if (!plan.hasLeg(leg) || !isIn(what, 0, 2)) {
            return BAD;
        }
        findOffer(leg);
        if (offered.crew == NONE) {
            return NONE;
        }
        switch (what) {
            case 0: return offered.crew;
            case 1: return offered.other;
            default: return offered.price;
        }
    }

    public int repair() {
        before.copyFrom(plan);
        return kept(repairRows());
    }

    public int repaired(int i, int what) {
        if (!isIn(what, 0, 3)) {
            return BAD;
        }
        if (!isIn(i, 0, repairs.count - 1)) {
            return NONE;
        }
        switch (what) {
            case 0: return repairs.crews[i];
            case 1: return repairs.legs[i];
            case 2: return repairs.flown[i] ? 1 : 0;
            default: return repairs.reserves[i];
        }
    }

    // ---- best pairings

    public int bestMinutes(int crew) {
        if (!plan.hasCrew(crew)) {
            return BAD;
        }
        search.run(crew);
        return search.bestCount == 0 ? NONE : search.bestSum;
    }

    public int bestLeg(int crew, int i) {
        if (!plan.hasCrew(crew)) {
            return BAD;
        }
        search.run(crew);
        if (search.bestCount == 0) {
            return NONE;
        }
        if (i == SIZE) {
            return search.bestCount;
        }
        return isIn(i, 0, search.bestCount - 1) ? search.best[i] : NONE;
    }

    public int takeBest(int crew) {
        before.copyFrom(plan);
        return kept(takePairing(crew));
    }

    // ---- texts

    public int letter(int crew, int i) {
        if (!plan.hasCrew(crew)) {
            return BAD;
        }
        row.load(crew);
        report.write(row, plan);
        if (i == SIZE) {
            return report.length;
        }
        if (!isIn(i, 0, report.length - 1)) {
            return NONE;
        }
        return report.text[i];
    }

    public int feed(int letter) {
        if (!isIn(letter, ' ', '~')) {
            return BAD;
        }
        if (commands.length >= TEXT) {
            return FULL;
        }
        commands.text[commands.length] = (char) letter;
        commands.length++;
        return commands.length;
    }

    public int execute() {
        int error = commands.parse();
        commands.length = 0;
        if (error != NONE) {
            return -200 - error;
        }
        before.copyFrom(plan);
        for (int i = 0; i < commands.count; i++) {
            if (runCommand(i) < 0) {
                plan.copyFrom(before);
                return -300 - i;
            }
        }
        return kept(commands.count);
    }

    // ---- snapshots and undo

    public int save() {
        snapshot.copyFrom(plan);
        saved = true;
        return plan.legCount;
    }

    public int restore() {
        if (!saved) {
            return NONE;
        }
        before.copyFrom(plan);
        plan.copyFrom(snapshot);
        return kept(plan.legCount);
    }

    public int undo() {
        return history.takeBack(plan);
    }

    // ---- what the changes do, without remembering them for undo

    /** Remembers the plan from before a change, unless the change was refused with an error code. */
    private int kept(int answer) {
        if (answer >= 0) {
            history.remember(before);
        }
        return answer;
    }

    private static boolean isIn(int value, int least, int most) {
        return value >= least && value <= most;
    }

    private int putLeg(int from, int to, int departure, int arrival) {
        if (!isIn(from, 0, AIRPORTS - 1) || !isIn(to, 0, AIRPORTS - 1) || from == to
                || !isIn(departure, 0, LAST_MINUTE) || !isIn(arrival, 0, LAST_MINUTE)
                || !isIn(arrival - departure, 1, LONGEST_LEG)) {
            return BAD;
        }
        int leg = plan.legCount;
        if (plan.hasTwin(from, to, departure, leg)) {
            return DUPLICATE;
        }
        if (leg >= LEGS) {
            return FULL;
        }
        plan.from[leg] = from;
        plan.to[leg] = to;
        plan.departure[leg] = departure;
        plan.arrival[leg] = arrival;
        plan.cancelled[leg] = 0;
        plan.legCount++;
        plan.sortLegs();
        return leg;
    }

    private int putCrew(int base) {
        if (!isIn(base, 0, AIRPORTS - 1)) {
            return BAD;
        }
        int crew = plan.crewCount;
        if (crew >= CREWS) {
            return FULL;
        }
        plan.bases[crew] = base;
        plan.crewCount++;
        return crew;
    }

    private int changeRule(int rule, int value) {
        if (!isIn(rule, 0, RULES - 1) || !isIn(value, RULE_LEAST[rule], RULE_MOST[rule])) {
            return BAD;
        }
        int previous = plan.rules[rule];
        plan.rules[rule] = value;
        return previous;
    }

    private int take(int crew, int leg, int task) {
        if (!plan.hasCrew(crew) || !plan.hasLeg(leg)) {
            return BAD;
        }
        int reason = reasonAgainst(crew, leg, task);
        if (reason != 0) {
            return -100 - reason;
        }
        plan.tasks[crew][leg] = task;
        row.load(crew);
        return row.positionOf(leg);
    }

    private int leave(int crew, int leg) {
        if (!plan.hasCrew(crew) || !plan.hasLeg(leg)) {
            return BAD;
        }
        if (plan.tasks[crew][leg] == APART) {
            return NONE;
        }
        plan.tasks[crew][leg] = APART;
        row.load(crew);
        return row.count;
    }

    private int shift(int leg, int minutes) {
        if (!plan.hasLeg(leg) || !isIn(minutes, -LONGEST_DELAY, LONGEST_DELAY)) {
            return BAD;
        }
        int departure = plan.departure[leg] + minutes;
        int arrival = plan.arrival[leg] + minutes;
        if (departure < 0 || arrival > LAST_MINUTE) {
            return RANGE;
        }
        if (plan.hasTwin(plan.from[leg], plan.to[leg], departure, leg)) {
            return DUPLICATE;
        }
        plan.departure[leg] = departure;
        plan.arrival[leg] = arrival;
        plan.sortLegs();
        int violated = 0;
        for (int crew = 0; crew < plan.crewCount; crew++) {
            row.load(crew);
            violated += row.findViolations(1);
        }
        return violated;
    }

    private int strike(int leg) {
        if (!plan.hasLeg(leg)) {
            return BAD;
        }
        if (plan.cancelled[leg] == 1) {
            return NONE;
        }
        plan.cancelled[leg] = 1;
        int rows = 0;
        for (int crew = 0; crew < plan.crewCount; crew++) {
            if (plan.tasks[crew][leg] != APART) {
                plan.tasks[crew][leg] = APART;
                rows++;
            }
        }
        return rows;
    }

    private int changeReserve(int crew, int start, int end) {
        if (!plan.hasCrew(crew) || !isIn(start, 0, LAST_MINUTE) || !isIn(end, start, LAST_MINUTE + 1)) {
            return BAD;
        }
        int previous = plan.isReserve(crew) ? 1 : 0;
        plan.starts[crew] = start;
        plan.ends[crew] = end;
        return previous;
    }

    /** The reason why a crew cannot take a leg; if it is a violation, the row has it as its first one. */
    private int reasonAgainst(int crew, int leg, int task) {
        if (plan.cancelled[leg] == 1) {
            return CANCELLED_REASON;
        }
        if (plan.tasks[crew][leg] != APART) {
            return PRESENT_REASON;
        }
        if (task == FLIES && plan.flyerOf(leg) != NONE) {
            return COVERED_REASON;
        }
        plan.tasks[crew][leg] = task;
        row.load(crew);
        plan.tasks[crew][leg] = APART;
        return row.findViolations(1) == 0 ? 0 : row.kinds[0];
    }

    private int costOf(int crew, int what) {
        row.load(crew);
        int cost = 0;
        if (what != 1) {
            cost += row.rideMinutes() * plan.rules[RIDE_COST];
        }
        if (what != 0) {
            cost += row.nightCount() * plan.rules[NIGHT_COST];
        }
        return cost;
    }

    private int reserveFor(int leg) {
        int chosen = NONE;
        if (!plan.isOpen(leg)) {
            return chosen;
        }
        int least = 0;
        for (int crew = 0; crew < plan.crewCount; crew++) {
            if (plan.isOnCall(crew, leg) && reasonAgainst(crew, leg, FLIES) == 0) {
                int minutes = plan.minutesOf(crew);
                if (chosen == NONE || minutes < least) {
                    chosen = crew;
                    least = minutes;
                }
            }
        }
        return chosen;
    }

    private int pairOpenLegs() {
        int covered = 0;
        for (int k = 0; k < plan.legCount; k++) {
            int leg = plan.order[k];
            findOffer(leg);
            if (offered.crew != NONE) {
                if (offered.other != NONE) {
                    plan.tasks[offered.crew][offered.other] = RIDES;
                }
                plan.tasks[offered.crew][leg] = FLIES;
                covered++;
            }
        }
        return covered;
    }

    /**
     * Finds the best offer for a leg. Crews and other legs are tried in rising order, so of offers that are
     * equal in price and minutes the first one that is found is the one to keep.
     */
    private void findOffer(int leg) {
        offered.crew = NONE;
        if (!plan.isOpen(leg)) {
            return;
        }
        for (int crew = 0; crew < plan.crewCount; crew++) {
            if (plan.isReserve(crew)) {
                continue;
            }
            int minutes = plan.minutesOf(crew);
            if (offered.isWorseThan(0, minutes) && reasonAgainst(crew, leg, FLIES) == 0) {
                offered.set(crew, NONE, 0, minutes);
            }
            for (int other = 0; other < plan.legCount; other++) {
                int price = plan.lengthOf(other) * plan.rules[RIDE_COST];
                if (plan.departure[other] < plan.departure[leg] && offered.isWorseThan(price, minutes)
                        && reasonAgainst(crew, other, RIDES) == 0) {
                    plan.tasks[crew][other] = RIDES;
                    int reason = reasonAgainst(crew, leg, FLIES);
                    plan.tasks[crew][other] = APART;
                    if (reason == 0) {
                        offered.set(crew, other, price, minutes);
                    }
                }
            }
        }
    }

    private int repairRows() {
        repairs.count = 0;
        for (int crew = 0; crew < plan.crewCount; crew++) {
            clearViolations(crew);
        }
        for (int k = 0; k < plan.legCount; k++) {
            int leg = plan.order[k];
            int i = repairs.flownEntry(leg);
            if (i != NONE) {
                int reserve = reserveFor(leg);
                repairs.reserves[i] = reserve;
                if (reserve != NONE) {
                    plan.tasks[reserve][leg] = FLIES;
                }
            }
        }
        return repairs.count;
    }

    private void clearViolations(int crew) {
        for (int removed = 0; removed < LEGS; removed++) {
            row.load(crew);
            if (row.findViolations(1) == 0) {
                return;
            }
            int i = row.places[0];
            int leg = row.legs[i];
            repairs.add(crew, leg, row.flown[i]);
            plan.tasks[crew][leg] = APART;
        }
    }

    private int takePairing(int crew) {
        if (!plan.hasCrew(crew)) {
            return BAD;
        }
        search.run(crew);
        if (search.bestCount == 0) {
            return NONE;
        }
        for (int i = 0; i < search.bestCount; i++) {
            plan.tasks[crew][search.best[i]] = FLIES;
        }
        return search.bestCount;
    }

    private int runCommand(int i) {
        int at = i * COMMAND_NUMBERS;
        int first = commands.numbers[at];
        int second = commands.numbers[at + 1];
        switch (commands.words[i]) {
            case LEG_COMMAND: return putLeg(first, second, commands.numbers[at + 2], commands.numbers[at + 3]);
            case CREW_COMMAND: return putCrew(first);
            case FLY_COMMAND: return take(first, second, FLIES);
            case RIDE_COMMAND: return take(first, second, RIDES);
            case DROP_COMMAND: return leave(first, second);
            case LATE_COMMAND: return shift(first, second);
            case CANCEL_COMMAND: return strike(first);
            case RULE_COMMAND: return changeRule(first, second);
            case PAIR_COMMAND: return pairOpenLegs();
            case REPAIR_COMMAND: return repairRows();
            default: return BAD;
        }
    }

    /** Legs, crews and rules: all that changes change and that undo and restore bring back. */
    private static final class Plan {
        int legCount;
        final int[] from = new int[LEGS];
        final int[] to = new int[LEGS];
        final int[] departure = new int[LEGS];
        final int[] arrival = new int[LEGS];
        /** 1 for a leg that is cancelled, 0 for the others. */
        final int[] cancelled = new int[LEGS];
        /** The legs by departure, then by number. */
        final int[] order = new int[LEGS];
        int crewCount;
        final int[] bases = new int[CREWS];
        /** The periods of the reserves; start and end are the same for a crew that is none. */
        final int[] starts = new int[CREWS];
        final int[] ends = new int[CREWS];
        /** What each crew does with each leg. The rows follow from this and from the order of the legs. */
        final int[][] tasks = new int[CREWS][LEGS];
        final int[] rules = new int[RULES];

        Plan() {
            System.arraycopy(RULE_FIRST, 0, rules, 0, RULES);
        }

        void copyFrom(Plan other) {
            legCount = other.legCount;
            System.arraycopy(other.from, 0, from, 0, LEGS);
            System.arraycopy(other.to, 0, to, 0, LEGS);
            System.arraycopy(other.departure, 0, departure, 0, LEGS);
            System.arraycopy(other.arrival, 0, arrival, 0, LEGS);
            System.arraycopy(other.cancelled, 0, cancelled, 0, LEGS);
            System.arraycopy(other.order, 0, order, 0, LEGS);
            crewCount = other.crewCount;
            System.arraycopy(other.bases, 0, bases, 0, CREWS);
            System.arraycopy(other.starts, 0, starts, 0, CREWS);
            System.arraycopy(other.ends, 0, ends, 0, CREWS);
            for (int crew = 0; crew < CREWS; crew++) {
                System.arraycopy(other.tasks[crew], 0, tasks[crew], 0, LEGS);
            }
            System.arraycopy(other.rules, 0, rules, 0, RULES);
        }

        boolean hasLeg(int leg) {
            return leg >= 0 && leg < legCount;
        }

        boolean hasCrew(int crew) {
            return crew >= 0 && crew < crewCount;
        }

        /** Whether a leg other than the given one has these airports and this departure. */
        boolean hasTwin(int origin, int target, int time, int except) {
            for (int leg = 0; leg < legCount; leg++) {
                if (leg != except && from[leg] == origin && to[leg] == target && departure[leg] == time) {
                    return true;
                }
            }
            return false;
        }

        void sortLegs() {
            for (int leg = 0; leg < legCount; leg++) {
                int at = leg;
                for (; at > 0 && departure[order[at - 1]] > departure[leg]; at--) {
                    order[at] = order[at - 1];
                }
                order[at] = leg;
            }
        }

        int lengthOf(int leg) {
            return arrival[leg] - departure[leg];
        }

        int flyerOf(int leg) {
            for (int crew = 0; crew < crewCount; crew++) {
                if (tasks[crew][leg] == FLIES) {
                    return crew;
                }
            }
            return NONE;
        }

        boolean isOpen(int leg) {
            return cancelled[leg] == 0 && flyerOf(leg) == NONE;
        }

        int minutesOf(int crew) {
            int sum = 0;
            for (int leg = 0; leg < legCount; leg++) {
                if (tasks[crew][leg] == FLIES) {
                    sum += lengthOf(leg);
                }
            }
            return sum;
        }

        boolean isReserve(int crew) {
            return starts[crew] < ends[crew];
        }

        boolean isOnCall(int crew, int leg) {
            return isReserve(crew) && departure[leg] >= starts[crew] + RESERVE_NOTICE && arrival[leg] <= ends[crew];
        }
    }

    /** The latest changes: for each the plan from before it, in a ring. */
    private static final class History {
        final Plan[] plans = new Plan[CHANGES];
        int next;
        int count;

        History() {
            for (int i = 0; i < CHANGES; i++) {
                plans[i] = new Plan();
            }
        }

        void remember(Plan before) {
            plans[next].copyFrom(before);
            next = (next + 1) % CHANGES;
            if (count < CHANGES) {
                count++;
            }
        }

        int takeBack(Plan plan) {
            if (count == 0) {
                return NONE;
            }
            next = (next + CHANGES - 1) % CHANGES;
            plan.copyFrom(plans[next]);
            count--;
            return count;
        }
    }

    /** The row of one crew, laid out in order, with its duties and violations. */
    private static final class Row {
        final Plan plan;
        int base;
        int count;
        final int[] legs = new int[LEGS];
        final boolean[] flown = new boolean[LEGS];
        /** The gap before each item; that of the first item is 0 and means nothing. */
        final int[] gaps = new int[LEGS];
        /** The number of the duty of each item. */
        final int[] duties = new int[LEGS];
        int dutyCount;
        /** For each duty the positions of its first and last item, and the minutes flown in it. */
        final int[] firsts = new int[LEGS];
        final int[] lasts = new int[LEGS];
        final int[] flownMinutes = new int[LEGS];
        int found;
        final int[] kinds = new int[KINDS * LEGS];
        final int[] places = new int[KINDS * LEGS];

        Row(Plan plan) {
            this.plan = plan;
        }

        void load(int crew) {
            base = plan.bases[crew];
            count = 0;
            dutyCount = 0;
            for (int k = 0; k < plan.legCount; k++) {
                int leg = plan.order[k];
                int task = plan.tasks[crew][leg];
                if (task != APART) {
                    append(leg, task == FLIES);
                }
            }
        }

        void append(int leg, boolean flies) {
            if (count >= LEGS) {
                return;
            }
            int gap = count == 0 ? 0 : plan.departure[leg] - plan.arrival[legs[count - 1]];
            if (count == 0 || gap >= plan.rules[REST]) {
                firsts[dutyCount] = count;
                flownMinutes[dutyCount] = 0;
                dutyCount++;
            }
            int duty = dutyCount - 1;
            lasts[duty] = count;
            if (flies) {
                flownMinutes[duty] += plan.arrival[leg] - plan.departure[leg];
            }
            legs[count] = leg;
            flown[count] = flies;
            gaps[count] = gap;
            duties[count] = duty;
            count++;
        }

        /** Takes back the latest append. */
        void removeLast() {
            if (count == 0) {
                return;
            }
            count--;
            int duty = duties[count];
            if (firsts[duty] == count) {
                dutyCount--;
                return;
            }
            lasts[duty] = count - 1;
            if (flown[count]) {
                flownMinutes[duty] -= plan.lengthOf(legs[count]);
            }
        }

        int positionOf(int leg) {
            for (int i = 0; i < count; i++) {
                if (legs[i] == leg) {
                    return i;
                }
            }
            return NONE;
        }

        int spanOf(int duty) {
            return plan.arrival[legs[lasts[duty]]] - plan.departure[legs[firsts[duty]]];
        }

        int sizeOf(int duty) {
            return lasts[duty] - firsts[duty] + 1;
        }

        int flownWithin(int start, int length) {
            int sum = 0;
            for (int i = 0; i < count; i++) {
                int leg = legs[i];
                int begin = plan.departure[leg] > start ? plan.departure[leg] : start;
                int end = plan.arrival[leg] < start + length ? plan.arrival[leg] : start + length;
                if (flown[i] && end > begin) {
                    sum += end - begin;
                }
            }
            return sum;
        }

        /** Whether the item violates a rule of the kinds 1 to 6. */
        boolean breaks(int kind, int i) {
            int duty = duties[i];
            boolean leads = firsts[duty] == i;
            switch (kind) {
                case 1: return i > 0 && gaps[i] < 0;
                case 2: return plan.from[legs[i]] != (i > 0 ? plan.to[legs[i - 1]] : base);
                case 3: return i > 0 && gaps[i] >= 0 && gaps[i] < plan.rules[CONNECTION];
                case 4: return leads && spanOf(duty) > plan.rules[DUTY_SPAN];
                case 5: return leads && flownMinutes[duty] > plan.rules[DUTY_FLIGHT];
                default: return leads && sizeOf(duty) > plan.rules[DUTY_LEGS];
            }
        }

        /** Whether the item violates the rule of the kind 7. */
        boolean overfillsWindow(int i) {
            return flown[i] && flownWithin(plan.departure[legs[i]], DAY) > plan.rules[WINDOW];
        }

        /** Finds the violations in their order, as many as asked for if there are, and returns their number. */
        int findViolations(int most) {
            int limit = most < kinds.length ? most : kinds.length;
            found = 0;
            for (int kind = 1; kind <= KINDS; kind++) {
                for (int i = 0; i < count && found < limit; i++) {
                    if (kind == WINDOW_KIND ? overfillsWindow(i) : breaks(kind, i)) {
                        kinds[found] = kind;
                        places[found] = i;
                        found++;
                    }
                }
            }
            return found;
        }

        /** Whether the last item brings a violation into a row that had none without it. */
        boolean lastBreaks() {
            int last = count - 1;
            if (last < 0) {
                return false;
            }
            int first = firsts[duties[last]];
            if (breaks(1, last) || breaks(2, last) || breaks(3, last)
                    || breaks(4, first) || breaks(5, first) || breaks(6, first)) {
                return true;
            }
            for (int i = 0; i < count; i++) {
                if (overfillsWindow(i)) {
                    return true;
                }
            }
            return false;
        }

        boolean isHome() {
            return count == 0 || plan.to[legs[count - 1]] == base;
        }

        boolean endsAtBase(int duty) {
            return plan.to[legs[lasts[duty]]] == base;
        }

        int pairingCount() {
            int pairings = 0;
            for (int duty = 0; duty < dutyCount; duty++) {
                if (endsAtBase(duty)) {
                    pairings++;
                }
            }
            return pairings;
        }

        /** No gap follows the last duty, so no night does. */
        int nightCount() {
            int nights = 0;
            for (int duty = 0; duty < dutyCount - 1; duty++) {
                if (!endsAtBase(duty)) {
                    nights++;
                }
            }
            return nights;
        }

        int rideMinutes() {
            int sum = 0;
            for (int i = 0; i < count; i++) {
                if (!flown[i]) {
                    sum += plan.lengthOf(legs[i]);
                }
            }
            return sum;
        }
    }

    /** The best offer that was found so far for a leg. */
    private static final class Offer {
        int crew = NONE;
        int other = NONE;
        int price;
        int minutes;

        boolean isWorseThan(int newPrice, int newMinutes) {
            return crew == NONE || newPrice < price || newPrice == price && newMinutes < minutes;
        }

        void set(int newCrew, int newOther, int newPrice, int newMinutes) {
            crew = newCrew;
            other = newOther;
            price = newPrice;
            minutes = newMinutes;
        }
    }

    /** The items that the latest repair removed. */
    private static final class Repairs {
        int count;
        final int[] crews = new int[CREWS * LEGS];
        final int[] legs = new int[CREWS * LEGS];
        final boolean[] flown = new boolean[CREWS * LEGS];
        final int[] reserves = new int[CREWS * LEGS];

        void add(int crew, int leg, boolean flies) {
            if (count >= CREWS * LEGS) {
                return;
            }
            crews[count] = crew;
            legs[count] = leg;
            flown[count] = flies;
            reserves[count] = NONE;
            count++;
        }

        int flownEntry(int leg) {
            for (int i = 0; i < count; i++) {
                if (legs[i] == leg && flown[i]) {
                    return i;
                }
            }
            return NONE;
        }
    }

    /**
     * The search for a best pairing. Legs behind a row never take a violation away, so a beginning with one
     * is given up. Legs are tried in rising order, so of equally good pairings the first one is found first.
     */
    private static final class Search {
        final Plan plan;
        final Row row;
        final int[] path = new int[PAIRING_LEGS];
        int sum;
        final int[] best = new int[PAIRING_LEGS];
        int bestCount;
        int bestSum;

        Search(Plan plan, Row row) {
            this.plan = plan;
            this.row = row;
        }

        void run(int crew) {
            sum = 0;
            bestCount = 0;
            bestSum = 0;
            row.load(crew);
            if (row.findViolations(1) == 0) {
                extend(this, 0);
            }
        }

        private static void extend(Search search, int depth) {
            if (depth >= PAIRING_LEGS) {
                return;
            }
            for (int leg = 0; leg < search.plan.legCount; leg++) {
                if (search.isBehind(leg) && search.plan.isOpen(leg)) {
                    search.row.append(leg, true);
                    if (!search.row.lastBreaks()) {
                        search.path[depth] = leg;
                        search.sum += search.plan.lengthOf(leg);
                        search.judge(depth + 1);
                        extend(search, depth + 1);
                        search.sum -= search.plan.lengthOf(leg);
                    }
                    search.row.removeLast();
                }
            }
        }

        boolean isBehind(int leg) {
            int count = row.count;
            return count == 0 || plan.departure[leg] > plan.departure[row.legs[count - 1]];
        }

        void judge(int length) {
            if (row.isHome() && (sum > bestSum || sum == bestSum && length < bestCount)) {
                bestSum = sum;
                bestCount = length;
                System.arraycopy(path, 0, best, 0, length);
            }
        }
    }

    /** The text of a row. */
    private static final class Report {
        final char[] text = new char[LEGS * 25];
        int length;

        void write(Row row, Plan plan) {
            length = 0;
            for (int i = 0; i < row.count; i++) {
                int leg = row.legs[i];
                putDigit(plan.from[leg]);
                put('>');
                putDigit(plan.to[leg]);
                put(' ');
                putTime(plan.departure[leg]);
                put('-');
                putTime(plan.arrival[leg]);
                putWord(row.flown[i] ? " fly;" : " ride;");
            }
        }

        void putTime(int time) {
            int hours = time % DAY / 60;
            int minutes = time % 60;
            put('d');
            putDigit(time / DAY);
            put('h');
            putDigit(hours / 10);
            putDigit(hours % 10);
            putDigit(minutes / 10);
            putDigit(minutes % 10);
        }

        void putWord(String word) {
            for (int i = 0; i < word.length(); i++) {
                put(word.charAt(i));
            }
        }

        void putDigit(int digit) {
            put((char) ('0' + digit));
        }

        void put(char sign) {
            if (length < text.length) {
                text[length] = sign;
                length++;
            }
        }
    }

    /** The text buffer, and the commands that were read from it. */
    private static final class Commands {
        final char[] text = new char[TEXT];
        int length;
        int position;
        int count;
        final int[] words = new int[TEXT];
        final int[] numbers = new int[TEXT * COMMAND_NUMBERS];

        /** Reads the text; returns its error position, or NONE if it has none. */
        int parse() {
            position = 0;
            count = 0;
            for (int i = 0; i < TEXT; i++) {
                if (!parseCommand(i)) {
                    return position;
                }
                count++;
                if (position >= length) {
                    return NONE;
                }
                if (text[position] != ';') {
                    return position;
                }
                position++;
            }
            return position;
        }

        /** Reads a command; if it has an error, the position is the one of the error then. */
        boolean parseCommand(int i) {
            int end = position;
            while (end < length && text[end] >= 'a' && text[end] <= 'z') {
                end++;
            }
            int word = NONE;
            for (int each = 0; each < COMMANDS; each++) {
                if (hasWord(end, wordOf(each))) {
                    word = each;
                }
            }
            if (word == NONE) {
                return false;
            }
            words[i] = word;
            position = end;
            for (int k = 0; k < NUMBERS[word]; k++) {
                if (!parseNumber(i * COMMAND_NUMBERS + k)) {
                    return false;
                }
            }
            return true;
        }

        /** Whether the word from the position to the end is this one. */
        boolean hasWord(int end, String word) {
            if (end - position != word.length()) {
                return false;
            }
            for (int i = 0; i < word.length(); i++) {
                if (text[position + i] != word.charAt(i)) {
                    return false;
                }
            }
            return true;
        }

        static String wordOf(int command) {
            switch (command) {
                case LEG_COMMAND: return "leg";
                case CREW_COMMAND: return "crew";
                case FLY_COMMAND: return "fly";
                case RIDE_COMMAND: return "ride";
                case DROP_COMMAND: return "drop";
                case LATE_COMMAND: return "late";
                case CANCEL_COMMAND: return "cancel";
                case RULE_COMMAND: return "rule";
                case PAIR_COMMAND: return "pair";
                default: return "repair";
            }
        }

        boolean parseNumber(int at) {
            if (position >= length || text[position] != ' ') {
                return false;
            }
            position++;
            int value = 0;
            int digits = 0;
            for (; digits < 4 && position < length && text[position] >= '0' && text[position] <= '9'; digits++) {
                value = value * 10 + (text[position] - '0');
                position++;
            }
            numbers[at] = value;
            return digits > 0;
        }
    }
}
