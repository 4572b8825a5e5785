import java.util.ArrayList;
import java.util.List;
import java.util.function.ToIntFunction;

/**
 * Cases in which a sentence that is read otherwise than its words say gives another answer: a later arrival for the
 * last one, minutes ridden for minutes flown, answers of 0 for error codes, and so on.
 */
final class BoundaryMisreadings extends Refusals {
    private BoundaryMisreadings() {
    }

    /** Row 0 is "f0 f1", from 100 to 400 and from 140 to 150: the first item arrives later than the last one. */
    private static CrewPairer overtaken() {
        CrewPairer x = wide();
        x.addCrew(0);
        x.addLeg(0, 1, 100, 400);
        x.addLeg(1, 0, 440, 450);
        x.fly(0, 0);
        x.fly(0, 1);
        is("no violation yet", x.delay(1, -300), 1);
        return x;
    }

    /** Leg 0, from 0 to 1 at 300, is in the rows of crews that departed from 3 by leg 1, which is cancelled. */
    private static CrewPairer stranded(boolean... flying) {
        CrewPairer x = new CrewPairer();
        x.addLeg(0, 1, 300, 360);
        x.addLeg(3, 0, 100, 160);
        for (int crew = 0; crew < flying.length; crew++) {
            x.addCrew(3);
            is("to 0", x.ride(crew, 1), 0);
            is("to 1", flying[crew] ? x.fly(crew, 0) : x.ride(crew, 0), 1);
        }
        is("cancel", x.cancel(1), flying.length);
        x.addCrew(0);
        x.setReserve(flying.length, 0, 6000);
        return x;
    }

    @Sentence(of = "Description", says = "The gap between two neighbouring items is the time from the arrival of the first one to "
            + "the departure of the second one.")
    static void descriptionGapsAreBetweenNeighboursOnly() {
        CrewPairer x = overtaken();
        x.addLeg(0, 1, 760, 800);
        is("a row with a violation takes no leg", x.fly(0, 2), -101);
        x.delay(1, 300);
        is("behind a gap of 310", x.fly(0, 2), 2);
        is("which is no rest", x.dutyCount(0), 1);
        x.delay(1, -300);
        is("610 minutes behind its neighbour, 360 behind the item before that", x.dutyCount(0), 2);
        is("a rest is before item 2", x.item(0, 2, 2), 1);
        is("the only violation", violations(x, 0), "1@1");
        x.delay(2, -590);
        is("20 minutes behind its neighbour, while item 0 is under way", violations(x, 0), "1@1 3@2");
        is("no rest", x.dutyCount(0), 1);
        x.delay(2, 10);
        is("30 minutes behind its neighbour", violations(x, 0), "1@1");
    }

    @Sentence(of = "Description", says = {"A crew is home if its row is empty or its last item arrives at its base.",
        "The number of pairings of a crew is the number of its items that arrive at the base and end a duty; the last item of "
        + "the row ends one, too."})
    static void descriptionTheLastItemIsNotTheOneThatArrivesLast() {
        CrewPairer x = overtaken();
        is("the last item arrives at the base", x.home(0), 1);
        is("and ends a duty", x.pairings(0), 1);
        is("the duty ends by its arrival", x.duty(0, 0, 0), 50);
        x.delay(1, -41);
        is("the other one is the last item", x.home(0), 0);
        is("and ends the duty away from the base", x.pairings(0), 0);
        is("the duty ends by its arrival", x.duty(0, 0, 0), 301);
    }

    @Sentence(of = "Description", says = {"4: the item is the first one of a duty, and from its departure to the arrival of the last "
        + "item of the duty it takes more minutes than the duty rule allows"})
    static void descriptionADutyEndsByItsLastItemThoughAnotherArrivesLater() {
        CrewPairer x = new CrewPairer();
        x.addCrew(0);
        x.addLeg(0, 1, 100, 401);
        x.addLeg(1, 0, 440, 450);
        x.fly(0, 0);
        x.fly(0, 1);
        x.delay(1, -300);
        x.setRule(2, 300);
        is("301 minutes by item 0 alone, but 50 to the arrival of item 1", violations(x, 0), "1@1");
        x.drop(0, 1);
        is("301 minutes", violations(x, 0), "4@0");
    }

    @Sentence(of = "Description", says = {"2: the item does not depart from where the item before it arrives, or, as the first item, "
        + "not from the base", "3: the gap before the item is not negative, but less than the connection"})
    static void descriptionAnItemCanHaveSeveralViolations() {
        CrewPairer x = wide();
        x.addCrew(0);
        x.addLeg(0, 1, 100, 160);
        x.addLeg(1, 2, 190, 250);
        x.addLeg(2, 0, 280, 340);
        for (int leg = 0; leg < 3; leg++) {
            x.fly(0, leg);
        }
        x.drop(0, 1);
        is("the wrong airport", violations(x, 0), "2@1");
        x.delay(2, -100);
        is("and too short a connection", violations(x, 0), "2@1 3@1");
        x.delay(2, -30);
        is("and too early", violations(x, 0), "1@1 2@1");
        x.delay(2, -60);
        is("too early the other way round, where the airports connect", violations(x, 0), "1@1 2@0");
        x.drop(0, 0);
        is("a first item from elsewhere", violations(x, 0), "2@0");
        CrewPairer y = new CrewPairer();
        y.addCrew(0);
        y.addLeg(0, 1, 0, 60);
        y.addLeg(1, 0, 100, 500);
        y.fly(0, 0);
        y.fly(0, 1);
        y.drop(0, 0);
        y.setRule(2, 399);
        y.setRule(3, 399);
        y.setRule(5, 399);
        is("of the kinds 2, 4, 5 and 7 at one place", violations(y, 0), "2@0 4@0 5@0 7@0");
        y.setRule(2, 400);
        y.setRule(3, 400);
        y.setRule(5, 400);
        is("of the kind 2 only", violations(y, 0), "2@0");
    }

    @Sentence(of = "Description", says = "7: the item is flown, and the minutes flown within 1440 minutes from its departure on are "
            + "more than the window rule allows")
    static void descriptionARiddenItemHasNoWindow() {
        CrewPairer x = wide();
        x.addCrew(0);
        x.addLeg(0, 1, 0, 60);
        x.addLeg(1, 0, 100, 200);
        x.addLeg(0, 1, 250, 350);
        x.ride(0, 0);
        x.fly(0, 1);
        x.fly(0, 2);
        x.setRule(5, 199);
        is("200 minutes flown behind the deadhead", violations(x, 0), "7@1");
        x.setRule(5, 200);
        is("which are allowed", violations(x, 0), "");
    }

    @Sentence(of = "Description", says = "and a crew that is no reserve and could fly the leg after riding on another leg, open or "
            + "covered, which departs before it and on which the crew can ride,")
    static void descriptionTheCrewCanRideOnTheOtherLegItself() {
        CrewPairer x = wide();
        x.addCrew(0);
        x.addLeg(0, 1, 100, 160);
        x.addLeg(1, 2, 200, 260);
        x.addLeg(2, 0, 300, 360);
        for (int leg = 0; leg < 3; leg++) {
            x.fly(0, leg);
        }
        x.drop(0, 0);
        x.drop(0, 1);
        is("the row departs from 2", violations(x, 0), "2@0");
        is("leg 0 does not lead there", x.reason(0, 0, false), 2);
        is("nor can the crew fly leg 1 alone", x.reason(0, 1, true), 2);
        is("both would lead there, but it cannot ride on leg 0", offer(x, 1), "-2 -2 -2");
        is("nothing is paired", x.pair(), 0);
        is("the row stays", row(x, 0), "f2");
    }

    @Sentence(of = "Description", says = {"The best offer has the least price; then the least minutes of the crew without this leg; "
        + "then the lowest crew; then no other leg, or else the lowest one."})
    static void descriptionTheLowestOtherLegMayDepartLater() {
        CrewPairer x = wide();
        x.addCrew(0);
        x.addLeg(0, 2, 150, 210);
        x.addLeg(0, 2, 100, 160);
        x.addLeg(2, 3, 300, 360);
        is("leg 1 departs first, but leg 0 is the lowest one", offer(x, 2), "0 0 600");
        x.delay(0, -1);
        x.delay(0, -51);
        is("leg 0 departs first, too", offer(x, 2), "0 0 600");
        CrewPairer y = new CrewPairer();
        y.addCrew(0);
        y.addCrew(0);
        y.addLeg(0, 3, 0, 30);
        y.addLeg(3, 0, 60, 90);
        y.addLeg(0, 2, 100, 160);
        y.addLeg(2, 0, 200, 260);
        y.addLeg(0, 1, 700, 760);
        y.fly(1, 0);
        y.fly(1, 1);
        y.ride(0, 2);
        y.ride(0, 3);
        is("crew 0 has ridden 120 minutes, but flown none; crew 1 has flown 60", offer(y, 4), "0 -2 0");
    }

    @Sentence(of = "Description", says = "of several reserves, it is the one with the least minutes, then the lowest one.")
    static void descriptionTheMinutesOfReservesAreThoseFlown() {
        for (int rider = 0; rider < 2; rider++) {
            CrewPairer x = new CrewPairer();
            x.addCrew(0);
            x.addCrew(0);
            x.addLeg(0, 1, 600, 660);
            x.addLeg(0, 2, 100, 200);
            x.addLeg(2, 0, 250, 350);
            x.addLeg(0, 3, 100, 115);
            x.addLeg(3, 0, 200, 215);
            x.ride(rider, 1);
            x.ride(rider, 2);
            x.fly(1 - rider, 3);
            x.fly(1 - rider, 4);
            x.setReserve(0, 0, 6000);
            x.setReserve(1, 0, 6000);
            is("200 minutes ridden are fewer than 30 flown", x.called(0), rider);
        }
    }

    @Sentence(of = "Description", says = {"Repair. A repair goes through the crews in order, reserves included, and removes from each "
        + "row, as long as the row has violations, the item at the place of the first one.",
        "Then it goes through the open legs that were flown and removed by that, by departure, then by number, and calls a "
        + "reserve for each, if there is one."})
    static void descriptionReservesAreCalledForFlownLegsAsTheyAreThen() {
        CrewPairer x = new CrewPairer();
        x.addCrew(3);
        x.addCrew(0);
        x.addCrew(1);
        x.addLeg(3, 0, 100, 160);
        x.addLeg(0, 1, 300, 360);
        x.addLeg(1, 0, 400, 460);
        x.addLeg(1, 2, 130, 145);
        x.addLeg(2, 1, 200, 215);
        for (int leg = 0; leg < 5; leg++) {
            is("fly", x.fly(leg < 3 ? 0 : 2, leg), leg % 3);
        }
        x.setReserve(1, 0, 6000);
        x.setReserve(2, 0, 6000);
        x.cancel(0);
        is("legs 1 and 2 are removed", x.repair(), 2);
        is("crew 1 has flown nothing before leg 1, but 60 minutes before leg 2", repaired(x), "0f1:1 0f2:2");
        is("row 1", row(x, 1), "f1");
        is("row 2", row(x, 2), "f3 f4 f2");
        CrewPairer y = shuttle(1);
        y.setReserve(0, 0, 6000);
        y.fly(0, 0);
        y.fly(0, 1);
        y.setRule(4, 1);
        is("both items of the reserve", y.repair(), 2);
        is("the reserve that lost a leg is called for it", repaired(y), "0f0:0 0f1:-2");
        is("and flies it again", row(y, 0), "f0");
    }

    @Sentence(of = "Promise 35", says = "3 for the reserve that was called for it, NONE if there was none or it was a deadhead")
    static void promise35NoReserveIsCalledForADeadhead() {
        CrewPairer x = stranded(false);
        is("removed", x.repair(), 1);
        is("a deadhead", repaired(x), "0r0:-2");
        is("the leg stays open", x.leg(0, 5), NONE);
        is("though a reserve could be called", x.called(0), 1);
        CrewPairer y = stranded(false, true, false);
        is("removed", y.repair(), 3);
        is("for the crew that flew the leg", repaired(y), "0r0:-2 1f0:3 2r0:-2");
        is("the reserve flies", row(y, 3), "f0");
        CrewPairer z = stranded(true, false);
        is("removed", z.repair(), 2);
        is("for the crew that flew the leg", repaired(z), "0f0:2 1r0:-2");
        CrewPairer w = stranded(false, false);
        w.addCrew(0);
        is("covered by crew 3", w.fly(3, 0), 0);
        is("removed", w.repair(), 2);
        is("nobody is called for a covered leg", repaired(w), "0r0:-2 1r0:-2");
    }

    @Sentence(of = "Promise 27", says = "Returns the number of crews whose rows have violations then;")
    static void promise27ReservesCountToo() {
        CrewPairer x = shuttle(2);
        for (int crew = 0; crew < 2; crew++) {
            x.ride(crew, 0);
            x.ride(crew, 1);
        }
        x.setReserve(1, 0, 6000);
        is("a crew and a reserve", x.delay(0, 31), 2);
        is("neither", x.delay(0, -31), 0);
    }

    @Sentence(of = "Promise 28", says = "Returns the number of rows that had it;")
    static void promise28RowsOfReservesCountToo() {
        CrewPairer x = shuttle(2);
        x.fly(0, 0);
        x.ride(1, 0);
        x.setReserve(0, 0, 6000);
        x.setReserve(1, 0, 6000);
        is("both are reserves", x.cancel(0), 2);
        is("rows are empty", x.itemCount(0) + x.itemCount(1), 0);
    }

    /** A call that is answered with 0 by a pairer that has as many changes to undo as told. */
    private record Zero(String name, CrewPairer x, int changes, ToIntFunction<CrewPairer> call) { }

    @Sentence(of = "Description", says = "Changes. The changes are the calls of addLeg, addCrew, fly, ride, drop, delay, cancel, "
            + "setRule, setReserve, pair, repair, takeBest, execute and restore that return no error code.")
    static void descriptionAnAnswerOf0IsNoErrorCode() {
        CrewPairer one = shuttle(1);
        one.fly(0, 0);
        CrewPairer free = new CrewPairer();
        free.setRule(6, 0);
        CrewPairer saved = new CrewPairer();
        saved.save();
        saved.addCrew(0);
        CrewPairer none = new CrewPairer();
        none.save();
        Zero[] zeros = {
            new Zero("addLeg", new CrewPairer(), 0, x -> x.addLeg(0, 1, 2, 3)),
            new Zero("addCrew", new CrewPairer(), 0, x -> x.addCrew(4)),
            new Zero("fly", shuttle(1), 5, x -> x.fly(0, 0)),
            new Zero("ride", shuttle(1), 5, x -> x.ride(0, 0)),
            new Zero("drop", one, 6, x -> x.drop(0, 0)),
            new Zero("delay", shuttle(1), 5, x -> x.delay(3, 9)),
            new Zero("cancel", shuttle(1), 5, x -> x.cancel(3)),
            new Zero("setRule", free, 1, x -> x.setRule(6, 1)),
            new Zero("setReserve", shuttle(1), 5, x -> x.setReserve(0, 1, 2)),
            new Zero("pair", shuttle(0), 4, CrewPairer::pair),
            new Zero("repair", shuttle(1), 5, CrewPairer::repair),
            new Zero("restore", saved, 1, CrewPairer::restore),
            new Zero("restore to the same", none, 0, CrewPairer::restore)};
        for (Zero zero : zeros) {
            is(zero.name, zero.call.applyAsInt(zero.x), 0);
            is("undo of " + zero.name, zero.x.undo(), zero.changes);
            is("undo of the change before " + zero.name, zero.x.undo(), zero.changes == 0 ? NONE : zero.changes - 1);
        }
    }

    private record Made(String name, ToIntFunction<CrewPairer> call) { }

    /** Each kind of change once, as some() takes it. */
    private static List<Made> changes() {
        return new ArrayList<>(List.of(
                new Made("addLeg", x -> x.addLeg(0, 5, 0, 9)), new Made("addCrew", x -> x.addCrew(5)),
                new Made("fly", x -> x.fly(1, 3)), new Made("ride", x -> x.ride(1, 3)), new Made("drop", x -> x.drop(0, 1)),
                new Made("delay", x -> x.delay(0, 1)), new Made("cancel", x -> x.cancel(5)),
                new Made("setRule", x -> x.setRule(0, 120)), new Made("setReserve", x -> x.setReserve(0, 0, 9)),
                new Made("pair", CrewPairer::pair), new Made("takeBest", x -> x.takeBest(1)),
                new Made("restore", CrewPairer::restore)));
    }

    @Sentence(of = "Promise 35", says = "It stays the same whatever changes until the next repair; undo does not affect it.")
    static void promise35NoOtherCallAffectsTheList() {
        List<Made> calls = changes();
        calls.add(new Made("undo", CrewPairer::undo));
        calls.add(new Made("save", CrewPairer::save));
        calls.add(new Made("execute", CrewPairer::execute));
        for (Made made : calls) {
            CrewPairer x = some();
            is(made.name + " is no error", made.call.applyAsInt(x) >= 0 ? 1 : 0, 1);
            is("the list after " + made.name, repaired(x), "0f2:2");
            x.undo();
            is("the list after " + made.name + ", undone", repaired(x), "0f2:2");
        }
        CrewPairer x = some();
        x.undo();
        x.execute();
        is("a repair in a text that has an effect", run(x, "drop 0 0;repair"), 2);
        is("is the latest one", repaired(x), "0f1:-2");
        is("and can be undone", x.undo() >= 0 ? 1 : 0, 1);
        is("but not its list", repaired(x), "0f1:-2");
        is("a text in which the repair comes first", run(x, "repair;drop 0 1;crew 6"), -302);
        is("has a list of its own", repaired(x), "");
        is("two repairs in a text that has no effect", run(x, "drop 0 0;repair;repair;crew 6"), -303);
        is("are told of by the latter one", repaired(x), "");
    }

    @Sentence(of = "Promise 40", says = "Returns the number of characters in the buffer;")
    static void promise40OnlyExecuteEmptiesTheBuffer() {
        List<Made> calls = changes();
        calls.add(new Made("repair", CrewPairer::repair));
        calls.add(new Made("undo", CrewPairer::undo));
        calls.add(new Made("save", CrewPairer::save));
        for (Made made : calls) {
            CrewPairer x = some();
            made.call.applyAsInt(x);
            is("the fifth character after " + made.name, x.feed('!'), 5);
            is("the other four are there yet after " + made.name, x.execute(), -204);
        }
    }

    @Sentence(of = "Promise 42", says = "Saves legs, crews and rules, in place of an earlier snapshot.")
    static void promise42OnlySaveTouchesTheSnapshot() {
        List<Made> calls = changes();
        calls.add(new Made("repair", CrewPairer::repair));
        calls.add(new Made("execute", CrewPairer::execute));
        calls.add(new Made("a failing text", x -> x.feed(';') + x.execute()));
        for (Made made : calls) {
            CrewPairer x = some();
            made.call.applyAsInt(x);
            is("restore after " + made.name, x.restore(), 7);
            is("rows after " + made.name, row(x, 0) + "," + row(x, 1) + "," + row(x, 2), "f0 f1 f2,r0,");
            is("crews after " + made.name, x.crewCount(), 3);
            is("rule after " + made.name, x.rule(0), 30);
            is("leg 6 after " + made.name, x.leg(6, 4), 0);
            is("leg 1 after " + made.name, x.leg(1, 2), 600);
            is("reserve after " + made.name, x.reserve(2, 0), NONE);
        }
        CrewPairer x = some();
        is("saved again", x.save(), 7);
        x.restore();
        is("the later rows", row(x, 0), "f1");
    }

    /** Each question once, with the answer of some(). */
    @Sentence(of = "Description", says = "Changes. The changes are the calls of addLeg, addCrew, fly, ride, drop, delay, cancel, "
            + "setRule, setReserve, pair, repair, takeBest, execute and restore that return no error code.")
    static void descriptionQuestionsAreNoChanges() {
        asked("legCount", Begin.SOME, CrewPairer::legCount, 7);
        asked("crewCount", Begin.SOME, CrewPairer::crewCount, 3);
        asked("leg", Begin.SOME, x -> x.leg(0, 3), 540);
        asked("rule", Begin.SOME, x -> x.rule(0), 45);
        asked("reason to ride", Begin.SOME, x -> x.reason(1, 3, false), 0);
        asked("reason to fly", Begin.SOME, x -> x.reason(0, 2, true), 8);
        asked("place", Begin.SOME, x -> x.place(0, 2, false), 1);
        asked("itemCount", Begin.SOME, x -> x.itemCount(0), 1);
        asked("item", Begin.SOME, x -> x.item(0, 0, 0), 1);
        asked("dutyCount", Begin.SOME, x -> x.dutyCount(0), 1);
        asked("duty", Begin.SOME, x -> x.duty(0, 0, 1), 60);
        asked("violationCount", Begin.SOME, x -> x.violationCount(0), 1);
        asked("violation", Begin.SOME, x -> x.violation(0, 0, 0), 2);
        asked("minutes", Begin.SOME, x -> x.minutes(2), 60);
        asked("within", Begin.SOME, x -> x.within(2, 720, 30), 30);
        asked("home", Begin.SOME, x -> x.home(1), 0);
        asked("pairings", Begin.SOME, x -> x.pairings(0), 1);
        asked("cost", Begin.SOME, x -> x.cost(-1, 2), 600);
        asked("openCount", Begin.SOME, CrewPairer::openCount, 4);
        asked("open", Begin.SOME, x -> x.open(3), 5);
        asked("reserve", Begin.SOME, x -> x.reserve(2, 1), 6000);
        asked("called", Begin.SOME, x -> x.called(3), 2);
        asked("offer without another leg", Begin.SOME, x -> x.offer(3, 0), 1);
        asked("offer with another leg", Begin.SOME, x -> x.offer(4, 1), 1);
        asked("repaired", Begin.SOME, x -> x.repaired(0, 3), 2);
        asked("bestMinutes", Begin.SOME, x -> x.bestMinutes(2), 260);
        asked("bestLeg", Begin.SOME, x -> x.bestLeg(2, 1), 4);
        asked("letter", Begin.SOME, x -> x.letter(0, 23), ';');
        asked("bestLeg of nobody's legs", Begin.FULLEST, x -> x.bestLeg(5, 0), NONE);
        asked("letter of a long row", Begin.FULLEST, x -> x.letter(0, -1), 576);
    }
}
