import java.util.List;
import java.util.function.ToIntFunction;

/** The boundary cases of changes, snapshots and errors: the promises 42 to 44. */
final class BoundaryChanges extends Refusals {
    private BoundaryChanges() {
    }

    /** A call that some() takes as a change, and one of the same method that it refuses, or null if it refuses none. */
    private record Change(String name, ToIntFunction<CrewPairer> made, ToIntFunction<CrewPairer> refused) { }

    private static final List<Change> CHANGES = List.of(
            new Change("addLeg", x -> x.addLeg(0, 5, 0, 9), x -> x.addLeg(0, 5, 0, 0)),
            new Change("addCrew", x -> x.addCrew(5), x -> x.addCrew(6)),
            new Change("fly", x -> x.fly(1, 3), x -> x.fly(1, 1)),
            new Change("ride", x -> x.ride(1, 3), x -> x.ride(1, 0)),
            new Change("drop", x -> x.drop(0, 1), x -> x.drop(0, 0)),
            new Change("delay", x -> x.delay(0, -480), x -> x.delay(0, -481)),
            new Change("delay by 0", x -> x.delay(0, 0), x -> x.delay(0, 240)),
            new Change("cancel", x -> x.cancel(5), x -> x.cancel(6)),
            new Change("setRule", x -> x.setRule(0, 120), x -> x.setRule(0, 121)),
            new Change("setRule to the same value", x -> x.setRule(0, 45), x -> x.setRule(0, 9)),
            new Change("setReserve", x -> x.setReserve(0, 5999, 6000), x -> x.setReserve(0, 5999, 6001)),
            new Change("setReserve to none again", x -> x.setReserve(0, 9, 9), x -> x.setReserve(0, 6000, 6000)),
            new Change("takeBest", x -> x.takeBest(1), x -> x.takeBest(0)),
            new Change("pair", CrewPairer::pair, null),
            new Change("repair", CrewPairer::repair, null),
            new Change("execute", CrewPairer::execute, null),
            new Change("restore", CrewPairer::restore, null));

    private static List<Change> refusable() {
        return CHANGES.stream().filter(change -> change.refused != null).toList();
    }

    /** What undo, restore and a failing text bring back, as a text of fewer than 150 calls. */
    private static String state(CrewPairer x) {
        StringBuilder text = new StringBuilder();
        for (int leg = 0; leg < x.legCount(); leg++) {
            text.append(x.leg(leg, 2)).append(' ').append(x.leg(leg, 4)).append(' ').append(x.leg(leg, 5)).append(',');
        }
        for (int crew = 0; crew < x.crewCount(); crew++) {
            text.append(row(x, crew)).append(' ').append(x.reserve(crew, 0)).append(' ').append(x.reserve(crew, 1)).append(',');
        }
        for (int rule = 0; rule < 8; rule++) {
            text.append(x.rule(rule)).append(' ');
        }
        return text.toString();
    }

    @Sentence(of = "Description", says = "Changes. The changes are the calls of addLeg, addCrew, fly, ride, drop, delay, cancel, "
            + "setRule, setReserve, pair, repair, takeBest, execute and restore that return no error code.")
    static void descriptionEachChangeIsOneToUndo() {
        for (Change change : CHANGES) {
            CrewPairer x = some();
            String before = state(x);
            x.undo();
            x.undo();
            String earlier = state(x);
            CrewPairer y = some();
            is(change.name + " returns no error code", change.made.applyAsInt(y) >= 0 ? 1 : 0, 1);
            is("undo of " + change.name, y.undo(), 7);
            is("all is as before " + change.name, state(y), before);
            is("undo of the change before " + change.name, y.undo(), 6);
            is("and of the one before that", y.undo(), 5);
            is("all is as before that", state(y), earlier);
        }
        for (Change change : refusable()) {
            is("an error code of " + change.name, change.refused.applyAsInt(some()) < 0 ? 1 : 0, 1);
            CrewPairer x = some();
            change.refused.applyAsInt(x);
            is("undo behind a refused " + change.name, x.undo(), 7);
            is("undoes the change before", x.rule(0), 30);
        }
        CrewPairer x = shuttle(1);
        is("restore without a snapshot", x.restore(), NONE);
        is("execute without a text", x.execute(), -200);
        is("execute with a command that fails", run(x, "crew 1;crew 6"), -301);
        is("none of them is a change", x.undo(), 4);
        is("the last change was the crew", x.crewCount(), 0);
        CrewPairer y = shuttle(1);
        y.legCount();
        y.save();
        y.feed(';');
        y.letter(0, -1);
        y.bestMinutes(0);
        y.repaired(0, 0);
        y.called(0);
        y.offer(0, 0);
        is("nor are other calls", y.undo(), 4);
        is("nor is undo", y.undo(), 3);
    }

    @Sentence(of = "Description",
            says = "At most 8 changes can be undone, the latest first; older ones are forgotten for good.")
    static void descriptionChangesToUndoAre0To8() {
        for (int changes = 0; changes < 20; changes++) {
            CrewPairer x = new CrewPairer();
            for (int i = 0; i < changes; i++) {
                x.setRule(7, i);
            }
            int most = Math.min(changes, 8);
            for (int i = 1; i <= most; i++) {
                is("undo " + i + " of " + changes, x.undo(), most - i);
                is("the rule", x.rule(7), changes == i ? 500 : changes - i - 1);
            }
            is("no more", x.undo(), NONE);
            is("the rule stays", x.rule(7), changes <= 8 ? 500 : changes - 9);
        }
        CrewPairer x = new CrewPairer();
        for (int i = 0; i < 9; i++) {
            x.setRule(7, i);
        }
        is("undo", x.undo(), 7);
        x.setRule(7, 100);
        for (int i = 7; i >= 0; i--) {
            is("8 again", x.undo(), i);
        }
        is("the ninth is forgotten for good", x.undo(), NONE);
        is("its value stays", x.rule(7), 0);
        x.setRule(7, 200);
        is("one again", x.undo(), 0);
        is("none again", x.undo(), NONE);
        is("its value stays", x.rule(7), 0);
    }

    @Sentence(of = "Description", says = "The snapshot and the text buffer are not affected by undo and restore.")
    static void descriptionUndoAndRestoreLeaveSnapshotAndText() {
        CrewPairer x = some();
        for (int i = 7; i >= 0; i--) {
            is("undo", x.undo(), i);
        }
        is("three flown legs", x.itemCount(0), 2);
        is("the text is there", x.feed(';'), 5);
        is("the snapshot is there", x.restore(), 7);
        is("as it was", row(x, 0), "f0 f1 f2");
        is("the text is there", x.feed('p'), 6);
        is("the snapshot is there yet", x.restore(), 7);
        x.undo();
        x.undo();
        is("undo of restore", x.itemCount(0), 2);
        is("the snapshot is there yet", x.restore(), 7);
        is("as it was", row(x, 0), "f0 f1 f2");
        x.feed('a');
        x.feed('i');
        is("the whole text", x.feed('r'), 9);
        is("is right", x.execute(), 2);
        CrewPairer y = shuttle(1);
        y.save();
        y.undo();
        y.save();
        is("the later snapshot", y.restore(), 4);
        is("which has no crew", y.crewCount(), 0);
    }

    @Sentence(of = "Description", says = "Errors. If several error codes are possible, the one that is mentioned first is returned.")
    static void descriptionTheErrorMentionedFirstIsReturned() {
        CrewPairer x = fullest();
        is("addLeg: BAD, DUPLICATE, FULL", x.addLeg(0, 1, 0, 0), BAD);
        is("addLeg: DUPLICATE, FULL", x.addLeg(0, 1, 0, 1), DUPLICATE);
        is("addLeg: FULL", x.addLeg(0, 1, 1, 2), FULL);
        is("addCrew: BAD, FULL", x.addCrew(6), BAD);
        is("addCrew: FULL", x.addCrew(5), FULL);
        is("feed: BAD, FULL", x.feed(31), BAD);
        is("feed: FULL", x.feed(32), FULL);
        CrewPairer y = some();
        is("fly: BAD, reason 10", y.fly(3, 6), BAD);
        is("fly: reason 10", y.fly(2, 6), -110);
        is("item: BAD, NONE", y.item(0, 9, 3), BAD);
        is("item: NONE", y.item(0, 9, 2), NONE);
        is("duty: BAD, NONE", y.duty(0, 9, 4), BAD);
        is("duty: NONE", y.duty(0, 9, 3), NONE);
        is("violation: BAD, NONE", y.violation(0, 9, 2), BAD);
        is("violation: NONE", y.violation(0, 9, 1), NONE);
        is("reserve: BAD, NONE", y.reserve(0, 2), BAD);
        is("reserve: NONE", y.reserve(0, 1), NONE);
        is("offer: BAD, NONE", y.offer(6, 3), BAD);
        is("offer: NONE", y.offer(6, 2), NONE);
        is("repaired: BAD, NONE", y.repaired(9, 4), BAD);
        is("repaired: NONE", y.repaired(9, 3), NONE);
        is("delay: BAD, RANGE, DUPLICATE", y.delay(0, -601), BAD);
        is("delay: RANGE", y.delay(0, -600), RANGE);
        is("delay: DUPLICATE", y.delay(0, 240), DUPLICATE);
        is("execute: the position of the first error, not a command that fails", executing(someWithoutText(), "crew 6;x"), -207);
    }

    private static CrewPairer someWithoutText() {
        CrewPairer x = some();
        x.execute();
        x.undo();
        return x;
    }

    private static int executing(CrewPairer x, String text) {
        for (int i = 0; i < text.length(); i++) {
            is("feed", x.feed(text.charAt(i)), i + 1);
        }
        return x.execute();
    }

    @Sentence(of = "Description",
            says = "A call that returns an error code changes nothing, unless its description says otherwise.")
    static void descriptionARefusedCallChangesNothing() {
        for (Change change : refusable()) {
            CrewPairer x = some();
            String before = state(x);
            is(change.name + " is refused", change.refused.applyAsInt(x) < 0 ? 1 : 0, 1);
            is("nothing changes by " + change.name, state(x), before);
            is("the text is there after " + change.name, x.feed('x'), 5);
            is("the list of the latest repair is there after " + change.name, repaired(x), "0f2:2");
            is("the snapshot is there after " + change.name, x.restore(), 7);
            is("as it was", row(x, 0), "f0 f1 f2");
        }
        CrewPairer x = some();
        x.feed('x');
        String before = state(x);
        is("execute", x.execute(), -200);
        is("changes nothing", state(x), before);
        is("but the text", x.feed('x'), 1);
    }

    @Sentence(of = "Description", says = {"- `BAD = -1`: An argument is not as described.",
        "- `NONE = -2`: There is nothing to return or to do.", "- `FULL = -3`: A capacity would be exceeded.",
        "- `DUPLICATE = -4`: There is such a leg already.", "- `RANGE = -5`: A time would be out of range."})
    static void descriptionConstantsAreMinus1ToMinus5() {
        is("BAD", CrewPairer.BAD, -1);
        is("NONE", CrewPairer.NONE, -2);
        is("FULL", CrewPairer.FULL, -3);
        is("DUPLICATE", CrewPairer.DUPLICATE, -4);
        is("RANGE", CrewPairer.RANGE, -5);
    }

    @Sentence(of = "Promise 42", says = {"Saves legs, crews and rules, in place of an earlier snapshot.",
        "Returns the number of legs."})
    static void promise42LegsAre0To24() {
        CrewPairer x = new CrewPairer();
        is("nothing there yet", x.save(), 0);
        is("an empty snapshot is one", x.restore(), 0);
        is("24 legs", fullest().save(), 24);
        is("a cancelled one counts", some().save(), 7);
        CrewPairer y = some();
        y.cancel(5);
        is("in place of the earlier snapshot", y.save(), 7);
        y.undo();
        y.undo();
        is("restore", y.restore(), 7);
        is("the later one", y.leg(5, 4), 1);
        is("with its reserve", y.reserve(2, 1), 6000);
        is("with its rules", y.rule(0), 45);
        is("with its rows", row(y, 0) + "," + row(y, 1) + "," + row(y, 2), "f1,r0,f2");
        CrewPairer z = some();
        is("save is no change", z.save(), 7);
        is("undo", z.undo(), 7);
        is("of the change before", z.rule(0), 30);
    }

    @Sentence(of = "Promise 43", says = {"Restores the snapshot, which is kept.",
        "Returns the number of legs; NONE if there is no snapshot."})
    static void promise43LegsAre0To24() {
        refused("no snapshot", Begin.EMPTY, CrewPairer::restore, NONE);
        refused("no snapshot", Begin.FULLEST, CrewPairer::restore, NONE);
        CrewPairer x = fullest();
        String full = state(x);
        is("save", x.save(), 24);
        for (int leg = 0; leg < 24; leg++) {
            x.cancel(leg);
        }
        is("24 legs", x.restore(), 24);
        is("none of them cancelled, all flown", state(x), full);
        CrewPairer y = new CrewPairer();
        y.save();
        y.addLeg(0, 1, 0, 1);
        y.addCrew(0);
        y.fly(0, 0);
        y.setRule(0, 10);
        is("nothing at all", y.restore(), 0);
        is("no leg", y.legCount(), 0);
        is("no crew", y.crewCount(), 0);
        is("the initial rule", y.rule(0), 30);
        is("the same leg again", y.addLeg(0, 1, 0, 1), 0);
        is("which nobody flies", y.leg(0, 5), NONE);
        is("it is kept", y.restore(), 0);
        is("and kept", y.restore(), 0);
    }

    @Sentence(of = "Promise 43", says = "Restores the snapshot, which is kept.")
    static void promise43AllOfLegsCrewsAndRulesIsRestored() {
        CrewPairer x = new CrewPairer();
        x.addLeg(0, 1, 100, 160);
        x.addLeg(1, 0, 200, 260);
        x.addCrew(0);
        x.setReserve(0, 5, 50);
        x.fly(0, 0);
        x.ride(0, 1);
        x.save();
        for (int i = 5; i >= 0; i--) {
            is("undo", x.undo(), i);
        }
        x.addLeg(2, 3, 300, 400);
        x.addLeg(4, 5, 50, 90);
        x.cancel(1);
        x.addCrew(2);
        x.setReserve(0, 7, 70);
        x.fly(0, 0);
        for (int rule = 0; rule < 8; rule++) {
            x.setRule(rule, RULE_MOST[rule]);
        }
        is("no open leg", x.open(0), NONE);
        x.drop(0, 0);
        is("restore", x.restore(), 2);
        promise43IsAsSaved(x);
        is("undo of restore", x.undo(), 7);
        int[] other = {2, 3, 300, 400, 0, NONE};
        for (int what = 0; what < 6; what++) {
            is("the other leg 0, what " + what, x.leg(0, what), other[what]);
        }
        is("the other crew", x.reserve(0, 0), 7);
        is("its base", x.reason(0, 0, true), 0);
        is("the other rule", x.rule(5), 1200);
        is("restore again", x.restore(), 2);
        promise43IsAsSaved(x);
        x.delay(1, -150);
        is("leg 1 is the first item then", row(x, 0), "r1 f0");
        x.drop(0, 0);
        x.restore();
        promise43IsAsSaved(x);
    }

    private static void promise43IsAsSaved(CrewPairer x) {
        int[][] due = {{0, 1, 100, 160, 0, 0}, {1, 0, 200, 260, 0, NONE}};
        for (int leg = 0; leg < 2; leg++) {
            for (int what = 0; what < 6; what++) {
                is("leg " + leg + ", what " + what, x.leg(leg, what), due[leg][what]);
            }
        }
        is("row", row(x, 0), "f0 r1");
        is("no violation, as the base is 0", violations(x, 0), "");
        is("start", x.reserve(0, 0), 5);
        is("end", x.reserve(0, 1), 50);
        is("open leg", open(x), "1");
        for (int rule = 0; rule < 8; rule++) {
            is("rule " + rule, x.rule(rule), RULE_FIRST[rule]);
        }
    }

    @Sentence(of = "Promise 44", says = "Undoes the latest change that was not undone: legs, crews and rules become as they were "
            + "before it.")
    static void promise44AllOfLegsCrewsAndRulesIsUndone() {
        CrewPairer x = new CrewPairer();
        x.addLeg(0, 1, 100, 160);
        x.addLeg(0, 2, 200, 260);
        x.addCrew(0);
        x.setReserve(0, 5, 50);
        x.setReserve(0, 7, 70);
        x.undo();
        is("the earlier start", x.reserve(0, 0), 5);
        is("the earlier end", x.reserve(0, 1), 50);
        x.delay(0, 101);
        is("the other order", open(x), "1 0");
        x.undo();
        is("the earlier order", open(x), "0 1");
        is("the earlier departure", x.leg(0, 2), 100);
        is("the earlier arrival", x.leg(0, 3), 160);
        x.undo();
        x.undo();
        x.addCrew(5);
        is("another base", x.reason(0, 0, true), 2);
        x.undo();
        is("no crew", x.crewCount(), 0);
        x.undo();
        x.undo();
        is("no leg", x.legCount(), 0);
        is("nothing left", x.undo(), NONE);
        is("another leg", x.addLeg(3, 4, 100, 101), 0);
        is("from", x.leg(0, 0), 3);
        is("to", x.leg(0, 1), 4);
    }

    @Sentence(of = "Promise 44", says = {
        "Undoes the latest change that was not undone: legs, crews and rules become as they were before it.",
        "Returns the number of changes that can still be undone; NONE if there is none."})
    static void promise44UndoneChangesAre7To0() {
        refused("nothing to undo", Begin.EMPTY, CrewPairer::undo, NONE);
        CrewPairer x = some();
        String[] due = {"f1,r0,f2", "f0 f1,r0,f2", "f0 f1 f2,r0,", "f0 f1 f2,r0,", "f0 f1 f2,r0,", "f0 f1 f2,r0,", "f0 f1 f2,,",
            "f0 f1,,"};
        int[] rule = {30, 30, 30, 30, 30, 30, 30, 30};
        int[] departure = {690, 690, 690, 600, 600, 600, 600, 600};
        int[] reserve = {0, 0, 0, 0, NONE, NONE, NONE, NONE};
        int[] cancelled = {1, 1, 1, 1, 1, 0, 0, 0};
        for (int i = 0; i < 8; i++) {
            is("undo " + i, x.undo(), 7 - i);
            is("rows", row(x, 0) + "," + row(x, 1) + "," + row(x, 2), due[i]);
            is("rule", x.rule(0), rule[i]);
            is("departure", x.leg(1, 2), departure[i]);
            is("reserve", x.reserve(2, 0), reserve[i]);
            is("cancelled", x.leg(6, 4), cancelled[i]);
        }
        is("no more", x.undo(), NONE);
        is("nothing changes then", row(x, 0), "f0 f1");
        is("a new change", x.cancel(6), 0);
        is("can be undone", x.undo(), 0);
        is("no more", x.undo(), NONE);
        is("not cancelled", x.leg(6, 4), 0);
    }
}
