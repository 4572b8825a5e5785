import java.util.ArrayList;
import java.util.Comparator;
import java.util.List;

/**
 * The document told a second time, as plainly and as slowly as it can be told, to compare the program with.
 * It shares no way of working with the program: rows are lists, minutes are counted one by one, best
 * pairings are found by trying all sequences, and what undo brings back is a copy of everything.
 */
final class Model {
    static final int BAD = -1;
    static final int NONE = -2;
    static final int FULL = -3;
    static final int DUPLICATE = -4;
    static final int RANGE = -5;

    private static final int[][] RULES = {
        {10, 120, 30}, {300, 900, 600}, {300, 960, 720}, {120, 720, 480},
        {1, 8, 4}, {120, 1200, 600}, {0, 99, 10}, {0, 9999, 500},
    };

    private static final class Leg {
        int from, to, dep, arr;
        boolean cancelled;

        int length() {
            return arr - dep;
        }
    }

    private static final class Item {
        final int leg;
        final boolean fly;

        Item(int leg, boolean fly) {
            this.leg = leg;
            this.fly = fly;
        }
    }

    private static final class Crew {
        int base;
        int[] period;
        List<Item> row = new ArrayList<>();
    }

    private static final class State {
        List<Leg> legs = new ArrayList<>();
        List<Crew> crews = new ArrayList<>();
        int[] rules = new int[8];

        State copy() {
            State s = new State();
            for (Leg leg : legs) {
                Leg l = new Leg();
                l.from = leg.from;
                l.to = leg.to;
                l.dep = leg.dep;
                l.arr = leg.arr;
                l.cancelled = leg.cancelled;
                s.legs.add(l);
            }
            for (Crew crew : crews) {
                Crew c = new Crew();
                c.base = crew.base;
                c.period = crew.period;
                c.row = new ArrayList<>(crew.row);
                s.crews.add(c);
            }
            s.rules = rules.clone();
            return s;
        }
    }

    private State now = new State();
    private State saved;
    private List<State> past = new ArrayList<>();
    private final StringBuilder buffer = new StringBuilder();
    private List<int[]> removed = new ArrayList<>();

    Model() {
        for (int i = 0; i < 8; i++) {
            now.rules[i] = RULES[i][2];
        }
    }

    // ---- helpers

    private boolean noLeg(int leg) {
        return leg < 0 || leg >= now.legs.size();
    }

    private boolean noCrew(int crew) {
        return crew < 0 || crew >= now.crews.size();
    }

    private Comparator<Integer> byDeparture() {
        return Comparator.<Integer>comparingInt(l -> now.legs.get(l).dep).thenComparingInt(l -> l);
    }

    private List<Item> sorted(List<Item> row) {
        List<Item> r = new ArrayList<>(row);
        r.sort(Comparator.comparing((Item i) -> i.leg, byDeparture()));
        return r;
    }

    private List<Item> row(int crew) {
        return sorted(now.crews.get(crew).row);
    }

    private List<Item> with(List<Item> row, int leg, boolean fly) {
        List<Item> r = new ArrayList<>(row);
        r.add(new Item(leg, fly));
        return sorted(r);
    }

    private Leg at(List<Item> row, int i) {
        return now.legs.get(row.get(i).leg);
    }

    private int gap(List<Item> row, int i) {
        return at(row, i).dep - at(row, i - 1).arr;
    }

    /** The duties, each as the position of its first item and the one behind its last item. */
    private List<int[]> duties(List<Item> row) {
        List<int[]> all = new ArrayList<>();
        int start = 0;
        for (int i = 1; i <= row.size(); i++) {
            if (i == row.size() || gap(row, i) >= now.rules[1]) {
                all.add(new int[] {start, i});
                start = i;
            }
        }
        return all;
    }

    private int span(List<Item> row, int[] duty) {
        return at(row, duty[1] - 1).arr - at(row, duty[0]).dep;
    }

    private int flown(List<Item> row, int first, int end) {
        int sum = 0;
        for (int i = first; i < end; i++) {
            sum += row.get(i).fly ? at(row, i).length() : 0;
        }
        return sum;
    }

    private int window(List<Item> row, int start, int length) {
        int sum = 0;
        for (int i = 0; i < row.size(); i++) {
            for (int minute = at(row, i).dep; row.get(i).fly && minute < at(row, i).arr; minute++) {
                sum += minute >= start && minute < start + length ? 1 : 0;
            }
        }
        return sum;
    }

    private List<int[]> violations(List<Item> row, int base) {
        List<int[]> found = new ArrayList<>();
        int[] rules = now.rules;
        for (int i = 0; i < row.size(); i++) {
            if (i > 0 && gap(row, i) < 0) {
                found.add(new int[] {1, i});
            }
            if (at(row, i).from != (i == 0 ? base : at(row, i - 1).to)) {
                found.add(new int[] {2, i});
            }
            if (i > 0 && gap(row, i) >= 0 && gap(row, i) < rules[0]) {
                found.add(new int[] {3, i});
            }
            if (row.get(i).fly && window(row, at(row, i).dep, 1440) > rules[5]) {
                found.add(new int[] {7, i});
            }
        }
        for (int[] duty : duties(row)) {
            if (span(row, duty) > rules[2]) {
                found.add(new int[] {4, duty[0]});
            }
            if (flown(row, duty[0], duty[1]) > rules[3]) {
                found.add(new int[] {5, duty[0]});
            }
            if (duty[1] - duty[0] > rules[4]) {
                found.add(new int[] {6, duty[0]});
            }
        }
        found.sort(Comparator.<int[]>comparingInt(v -> v[0]).thenComparingInt(v -> v[1]));
        return found;
    }

    private List<int[]> violations(int crew) {
        return violations(row(crew), now.crews.get(crew).base);
    }

    private int flyer(int leg) {
        for (int c = 0; c < now.crews.size(); c++) {
            for (Item item : now.crews.get(c).row) {
                if (item.leg == leg && item.fly) {
                    return c;
                }
            }
        }
        return NONE;
    }

    private List<Integer> openLegs() {
        List<Integer> all = new ArrayList<>();
        for (int l = 0; l < now.legs.size(); l++) {
            if (!now.legs.get(l).cancelled && flyer(l) == NONE) {
                all.add(l);
            }
        }
        all.sort(byDeparture());
        return all;
    }

    private int isHome(List<Item> row, int base) {
        return row.isEmpty() || at(row, row.size() - 1).to == base ? 1 : 0;
    }

    /** The reason why a crew, with this row, cannot take a leg, and the place of the violation. */
    private int[] why(int crew, List<Item> row, int leg, boolean flies) {
        if (now.legs.get(leg).cancelled) {
            return new int[] {10, NONE};
        }
        for (Item item : row) {
            if (item.leg == leg) {
                return new int[] {9, NONE};
            }
        }
        if (flies && flyer(leg) != NONE) {
            return new int[] {8, NONE};
        }
        List<int[]> all = violations(with(row, leg, flies), now.crews.get(crew).base);
        return all.isEmpty() ? new int[] {0, NONE} : all.get(0);
    }

    private int position(int crew, int leg) {
        List<Item> row = row(crew);
        for (int i = 0; i < row.size(); i++) {
            if (row.get(i).leg == leg) {
                return i;
            }
        }
        return NONE;
    }

    // ---- changes: each is tried on a copy, which is taken back if an error code comes of it

    private interface Change {
        int make();
    }

    private int change(Change change) {
        State old = now.copy();
        int answer = change.make();
        if (answer < 0) {
            now = old;
            return answer;
        }
        past.add(old);
        if (past.size() > 8) {
            past.remove(0);
        }
        return answer;
    }

    int addLeg(int from, int to, int departure, int arrival) {
        return change(() -> doAddLeg(from, to, departure, arrival));
    }

    private int doAddLeg(int from, int to, int departure, int arrival) {
        if (from < 0 || from > 5 || to < 0 || to > 5 || from == to || departure < 0 || departure > 5999
                || arrival > 5999 || arrival <= departure || (long) arrival - departure > 600) {
            return BAD;
        }
        for (Leg leg : now.legs) {
            if (leg.from == from && leg.to == to && leg.dep == departure) {
                return DUPLICATE;
            }
        }
        if (now.legs.size() == 24) {
            return FULL;
        }
        Leg leg = new Leg();
        leg.from = from;
        leg.to = to;
        leg.dep = departure;
        leg.arr = arrival;
        now.legs.add(leg);
        return now.legs.size() - 1;
    }

    int addCrew(int base) {
        return change(() -> doAddCrew(base));
    }

    private int doAddCrew(int base) {
        if (base < 0 || base > 5) {
            return BAD;
        }
        if (now.crews.size() == 6) {
            return FULL;
        }
        Crew crew = new Crew();
        crew.base = base;
        now.crews.add(crew);
        return now.crews.size() - 1;
    }

    int setRule(int rule, int value) {
        return change(() -> doSetRule(rule, value));
    }

    private int doSetRule(int rule, int value) {
        if (rule < 0 || rule > 7 || value < RULES[rule][0] || value > RULES[rule][1]) {
            return BAD;
        }
        int previous = now.rules[rule];
        now.rules[rule] = value;
        return previous;
    }

    int fly(int crew, int leg) {
        return change(() -> doTake(crew, leg, true));
    }

    int ride(int crew, int leg) {
        return change(() -> doTake(crew, leg, false));
    }

    private int doTake(int crew, int leg, boolean flies) {
        int reason = reason(crew, leg, flies);
        if (reason != 0) {
            return reason == BAD ? BAD : -100 - reason;
        }
        now.crews.get(crew).row.add(new Item(leg, flies));
        return position(crew, leg);
    }

    int drop(int crew, int leg) {
        return change(() -> doDrop(crew, leg));
    }

    private int doDrop(int crew, int leg) {
        if (noCrew(crew) || noLeg(leg)) {
            return BAD;
        }
        return now.crews.get(crew).row.removeIf(i -> i.leg == leg) ? now.crews.get(crew).row.size() : NONE;
    }

    int delay(int leg, int minutes) {
        return change(() -> doDelay(leg, minutes));
    }

    private int doDelay(int leg, int minutes) {
        if (noLeg(leg) || minutes < -600 || minutes > 600) {
            return BAD;
        }
        Leg moved = now.legs.get(leg);
        if (moved.dep + minutes < 0 || moved.arr + minutes > 5999) {
            return RANGE;
        }
        for (Leg other : now.legs) {
            if (other != moved && other.from == moved.from && other.to == moved.to && other.dep == moved.dep + minutes) {
                return DUPLICATE;
            }
        }
        moved.dep += minutes;
        moved.arr += minutes;
        int count = 0;
        for (int c = 0; c < now.crews.size(); c++) {
            count += violations(c).isEmpty() ? 0 : 1;
        }
        return count;
    }

    int cancel(int leg) {
        return change(() -> doCancel(leg));
    }

    private int doCancel(int leg) {
        if (noLeg(leg)) {
            return BAD;
        }
        if (now.legs.get(leg).cancelled) {
            return NONE;
        }
        now.legs.get(leg).cancelled = true;
        int rows = 0;
        for (Crew crew : now.crews) {
            rows += crew.row.removeIf(i -> i.leg == leg) ? 1 : 0;
        }
        return rows;
    }

    int setReserve(int crew, int start, int end) {
        return change(() -> doSetReserve(crew, start, end));
    }

    private int doSetReserve(int crew, int start, int end) {
        if (noCrew(crew) || start < 0 || start > 5999 || end < start || end > 6000) {
            return BAD;
        }
        int before = now.crews.get(crew).period == null ? 0 : 1;
        now.crews.get(crew).period = start == end ? null : new int[] {start, end};
        return before;
    }

    int pair() {
        return change(this::doPair);
    }

    private int doPair() {
        int covered = 0;
        for (int leg : openLegs()) {
            int[] best = bestOffer(leg);
            if (best != null) {
                if (best[1] != NONE) {
                    now.crews.get(best[0]).row.add(new Item(best[1], false));
                }
                now.crews.get(best[0]).row.add(new Item(leg, true));
                covered++;
            }
        }
        return covered;
    }

    /** Crew, other leg and price of the best offer, or null. */
    private int[] bestOffer(int leg) {
        if (!openLegs().contains(leg)) {
            return null;
        }
        List<int[]> offers = new ArrayList<>();
        for (int c = 0; c < now.crews.size(); c++) {
            if (now.crews.get(c).period != null) {
                continue;
            }
            List<Item> row = row(c);
            if (why(c, row, leg, true)[0] == 0) {
                offers.add(new int[] {c, NONE, 0, minutes(c)});
            }
            for (int o = 0; o < now.legs.size(); o++) {
                if (now.legs.get(o).dep < now.legs.get(leg).dep && why(c, row, o, false)[0] == 0
                        && why(c, with(row, o, false), leg, true)[0] == 0) {
                    offers.add(new int[] {c, o, now.legs.get(o).length() * now.rules[6], minutes(c)});
                }
            }
        }
        offers.sort(Comparator.<int[]>comparingInt(o -> o[2]).thenComparingInt(o -> o[3])
                .thenComparingInt(o -> o[0]).thenComparingInt(o -> o[1]));
        return offers.isEmpty() ? null : offers.get(0);
    }

    int repair() {
        return change(this::doRepair);
    }

    private int doRepair() {
        removed = new ArrayList<>();
        for (int c = 0; c < now.crews.size(); c++) {
            while (!violations(c).isEmpty()) {
                Item item = row(c).get(violations(c).get(0)[1]);
                now.crews.get(c).row.removeIf(i -> i.leg == item.leg);
                removed.add(new int[] {c, item.leg, item.fly ? 1 : 0, NONE});
            }
        }
        for (int leg : openLegs()) {
            for (int[] entry : removed) {
                if (entry[1] == leg && entry[2] == 1 && flyer(leg) == NONE) {
                    entry[3] = called(leg);
                    if (entry[3] != NONE) {
                        now.crews.get(entry[3]).row.add(new Item(leg, true));
                    }
                }
            }
        }
        return removed.size();
    }

    int takeBest(int crew) {
        return change(() -> doTakeBest(crew));
    }

    private int doTakeBest(int crew) {
        if (noCrew(crew)) {
            return BAD;
        }
        List<Integer> best = best(crew);
        for (int leg : best) {
            now.crews.get(crew).row.add(new Item(leg, true));
        }
        return best.isEmpty() ? NONE : best.size();
    }

    int restore() {
        return change(() -> {
            if (saved == null) {
                return NONE;
            }
            now = saved.copy();
            return now.legs.size();
        });
    }

    int save() {
        saved = now.copy();
        return now.legs.size();
    }

    int undo() {
        if (past.isEmpty()) {
            return NONE;
        }
        now = past.remove(past.size() - 1);
        return past.size();
    }

    // ---- best pairings

    /** How many legs a search for a best pairing of the crew would have to try: more than some 12 are slow. */
    int candidates(int crew) {
        return noCrew(crew) ? 0 : behind(crew).size();
    }

    private List<Integer> behind(int crew) {
        List<Item> row = row(crew);
        List<Integer> all = openLegs();
        all.removeIf(l -> !row.isEmpty() && now.legs.get(l).dep <= at(row, row.size() - 1).dep);
        return all;
    }

    private List<Integer> best(int crew) {
        List<Integer> best = new ArrayList<>();
        tryAll(crew, behind(crew), 0, new ArrayList<>(), best);
        return best;
    }

    private void tryAll(int crew, List<Integer> legs, int from, List<Integer> chosen, List<Integer> best) {
        if (!chosen.isEmpty() && isPairing(crew, chosen) && isBetter(chosen, best)) {
            best.clear();
            best.addAll(chosen);
        }
        for (int k = from; k < legs.size() && chosen.size() < 6; k++) {
            int last = chosen.isEmpty() ? -1 : now.legs.get(chosen.get(chosen.size() - 1)).dep;
            if (now.legs.get(legs.get(k)).dep > last) {
                chosen.add(legs.get(k));
                tryAll(crew, legs, k + 1, chosen, best);
                chosen.remove(chosen.size() - 1);
            }
        }
    }

    private boolean isPairing(int crew, List<Integer> chosen) {
        List<Item> row = row(crew);
        for (int leg : chosen) {
            row.add(new Item(leg, true));
        }
        int base = now.crews.get(crew).base;
        return isHome(row, base) == 1 && violations(row, base).isEmpty();
    }

    private boolean isBetter(List<Integer> a, List<Integer> b) {
        if (b.isEmpty() || sum(a) != sum(b)) {
            return b.isEmpty() || sum(a) > sum(b);
        }
        if (a.size() != b.size()) {
            return a.size() < b.size();
        }
        for (int i = 0; i < a.size(); i++) {
            if (!a.get(i).equals(b.get(i))) {
                return a.get(i) < b.get(i);
            }
        }
        return false;
    }

    private int sum(List<Integer> legs) {
        int sum = 0;
        for (int leg : legs) {
            sum += now.legs.get(leg).length();
        }
        return sum;
    }

    int bestMinutes(int crew) {
        if (noCrew(crew)) {
            return BAD;
        }
        List<Integer> best = best(crew);
        return best.isEmpty() ? NONE : sum(best);
    }

    int bestLeg(int crew, int i) {
        if (noCrew(crew)) {
            return BAD;
        }
        List<Integer> best = best(crew);
        if (best.isEmpty()) {
            return NONE;
        }
        return i == -1 ? best.size() : i < 0 || i >= best.size() ? NONE : best.get(i);
    }

    // ---- questions

    int legCount() {
        return now.legs.size();
    }

    int crewCount() {
        return now.crews.size();
    }

    int leg(int leg, int what) {
        if (noLeg(leg) || what < 0 || what > 5) {
            return BAD;
        }
        Leg l = now.legs.get(leg);
        return new int[] {l.from, l.to, l.dep, l.arr, l.cancelled ? 1 : 0, flyer(leg)}[what];
    }

    int rule(int rule) {
        return rule < 0 || rule > 7 ? BAD : now.rules[rule];
    }

    int reason(int crew, int leg, boolean flies) {
        return noCrew(crew) || noLeg(leg) ? BAD : why(crew, row(crew), leg, flies)[0];
    }

    int place(int crew, int leg, boolean flies) {
        return noCrew(crew) || noLeg(leg) ? BAD : why(crew, row(crew), leg, flies)[1];
    }

    int itemCount(int crew) {
        return noCrew(crew) ? BAD : row(crew).size();
    }

    int item(int crew, int i, int what) {
        if (noCrew(crew) || what < 0 || what > 2) {
            return BAD;
        }
        List<Item> row = row(crew);
        if (i < 0 || i >= row.size()) {
            return NONE;
        }
        int number = 0;
        for (int[] duty : duties(row)) {
            number += duty[1] <= i ? 1 : 0;
        }
        return new int[] {row.get(i).leg, row.get(i).fly ? 1 : 0, number}[what];
    }

    int dutyCount(int crew) {
        if (noCrew(crew)) {
            return BAD;
        }
        return row(crew).isEmpty() ? 0 : duties(row(crew)).size();
    }

    int duty(int crew, int duty, int what) {
        if (noCrew(crew) || what < 0 || what > 3) {
            return BAD;
        }
        if (duty < 0 || duty >= dutyCount(crew)) {
            return NONE;
        }
        List<Item> row = row(crew);
        int[] d = duties(row).get(duty);
        return new int[] {span(row, d), flown(row, d[0], d[1]), d[1] - d[0], d[0]}[what];
    }

    int violationCount(int crew) {
        return noCrew(crew) ? BAD : violations(crew).size();
    }

    int violation(int crew, int i, int what) {
        if (noCrew(crew) || what < 0 || what > 1) {
            return BAD;
        }
        List<int[]> all = violations(crew);
        return i < 0 || i >= all.size() ? NONE : all.get(i)[what];
    }

    int minutes(int crew) {
        return noCrew(crew) ? BAD : flown(row(crew), 0, row(crew).size());
    }

    int within(int crew, int start, int length) {
        if (noCrew(crew) || start < 0 || start > 5999 || length < 1 || length > 6000) {
            return BAD;
        }
        return window(row(crew), start, length);
    }

    int home(int crew) {
        return noCrew(crew) ? BAD : isHome(row(crew), now.crews.get(crew).base);
    }

    int pairings(int crew) {
        if (noCrew(crew)) {
            return BAD;
        }
        List<Item> row = row(crew);
        int count = 0;
        for (int i = 0; i < row.size(); i++) {
            boolean ends = i == row.size() - 1 || gap(row, i + 1) >= now.rules[1];
            count += ends && at(row, i).to == now.crews.get(crew).base ? 1 : 0;
        }
        return count;
    }

    int cost(int crew, int what) {
        if (crew != -1 && noCrew(crew) || what < 0 || what > 2) {
            return BAD;
        }
        int rides = 0;
        int nights = 0;
        for (int c = 0; c < now.crews.size(); c++) {
            List<Item> row = row(c);
            for (int i = 0; i < row.size() && (crew == -1 || crew == c); i++) {
                rides += row.get(i).fly ? 0 : at(row, i).length() * now.rules[6];
                boolean night = i + 1 < row.size() && gap(row, i + 1) >= now.rules[1];
                nights += night && at(row, i).to != now.crews.get(c).base ? now.rules[7] : 0;
            }
        }
        return what == 0 ? rides : what == 1 ? nights : rides + nights;
    }

    int openCount() {
        return openLegs().size();
    }

    int open(int i) {
        return i < 0 || i >= openLegs().size() ? NONE : openLegs().get(i);
    }

    int reserve(int crew, int what) {
        if (noCrew(crew) || what < 0 || what > 1) {
            return BAD;
        }
        return now.crews.get(crew).period == null ? NONE : now.crews.get(crew).period[what];
    }

    int called(int leg) {
        if (noLeg(leg)) {
            return BAD;
        }
        int chosen = NONE;
        Leg l = now.legs.get(leg);
        for (int c = 0; c < now.crews.size() && openLegs().contains(leg); c++) {
            int[] period = now.crews.get(c).period;
            if (period != null && l.dep - period[0] >= 120 && l.arr <= period[1]
                    && why(c, row(c), leg, true)[0] == 0 && (chosen == NONE || minutes(c) < minutes(chosen))) {
                chosen = c;
            }
        }
        return chosen;
    }

    int offer(int leg, int what) {
        if (noLeg(leg) || what < 0 || what > 2) {
            return BAD;
        }
        int[] best = bestOffer(leg);
        return best == null ? NONE : best[what];
    }

    int repaired(int i, int what) {
        if (what < 0 || what > 3) {
            return BAD;
        }
        return i < 0 || i >= removed.size() ? NONE : removed.get(i)[what];
    }

    int letter(int crew, int i) {
        if (noCrew(crew)) {
            return BAD;
        }
        StringBuilder text = new StringBuilder();
        for (Item item : row(crew)) {
            Leg l = now.legs.get(item.leg);
            text.append(l.from).append('>').append(l.to).append(' ').append(time(l.dep)).append('-')
                    .append(time(l.arr)).append(item.fly ? " fly;" : " ride;");
        }
        return i == -1 ? text.length() : i < 0 || i >= text.length() ? NONE : text.charAt(i);
    }

    private static String time(int time) {
        return String.format("d%dh%02d%02d", time / 1440, time % 1440 / 60, time % 60);
    }

    // ---- commands

    int feed(int letter) {
        if (letter < 32 || letter > 126) {
            return BAD;
        }
        if (buffer.length() == 60) {
            return FULL;
        }
        buffer.append((char) letter);
        return buffer.length();
    }

    int execute() {
        String text = buffer.toString();
        buffer.setLength(0);
        int error = errorPosition(text);
        if (error >= 0) {
            return -200 - error;
        }
        String[] commands = text.split(";");
        return change(() -> {
            for (int i = 0; i < commands.length; i++) {
                if (command(commands[i].split(" ")) < 0) {
                    return -300 - i;
                }
            }
            return commands.length;
        });
    }

    private int command(String[] parts) {
        int[] n = new int[5];
        for (int i = 1; i < parts.length; i++) {
            n[i] = Integer.parseInt(parts[i]);
        }
        switch (parts[0]) {
            case "leg": return doAddLeg(n[1], n[2], n[3], n[4]);
            case "crew": return doAddCrew(n[1]);
            case "fly": return doTake(n[1], n[2], true);
            case "ride": return doTake(n[1], n[2], false);
            case "drop": return doDrop(n[1], n[2]);
            case "late": return doDelay(n[1], n[2]);
            case "cancel": return doCancel(n[1]);
            case "rule": return doSetRule(n[1], n[2]);
            case "pair": return doPair();
            default: return doRepair();
        }
    }

    private static final String NUMBER = " [0-9]{1,4}";
    private static final String COMMAND = "leg( N){4}|crew N|(fly|ride|drop|late|rule)( N){2}|cancel N|pair|repair"
            .replace(" N", NUMBER);
    private static final String[] WORDS =
            {"leg", "crew", "fly", "ride", "drop", "late", "cancel", "rule", "pair", "repair"};

    /** The error position, or -1: the longest beginning that some command text continues, but for wrong words. */
    private static int errorPosition(String text) {
        if (text.matches("(" + COMMAND + ")(;(" + COMMAND + "))*")) {
            return -1;
        }
        int start = 0;
        for (String command : text.split(";", -1)) {
            if (!command.matches(COMMAND)) {
                return start + errorInside(command);
            }
            start += command.length() + 1;
        }
        throw new IllegalStateException(text);
    }

    private static int errorInside(String command) {
        String word = command.replaceAll("[^a-z].*", "");
        if (!List.of(WORDS).contains(word)) {
            return 0;
        }
        java.util.regex.Pattern whole = java.util.regex.Pattern.compile(COMMAND);
        for (int end = command.length(); end > 0; end--) {
            java.util.regex.Matcher m = whole.matcher(command.substring(0, end));
            if (m.matches() || m.hitEnd()) {
                return end;
            }
        }
        return 0;
    }
}
