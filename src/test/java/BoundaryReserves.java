/** The boundary cases of open legs, delays, reserves and repair: the promises 25 to 31, 34 and 35. */
final class BoundaryReserves extends Refusals {
    private BoundaryReserves() {
    }

    /** A crew that can fly leg 0, from 480 to 540, and is a reserve with this period. */
    private static CrewPairer reserve(int start, int end) {
        CrewPairer x = shuttle(1);
        is("setReserve", x.setReserve(0, start, end), 0);
        return x;
    }

    /**
     * Two reserves that can fly leg 0; crew 0 has 30 minutes, crew 1 as many as given. Crew 2 has none, but is no
     * reserve.
     */
    private static CrewPairer reserves(int minutes) {
        CrewPairer x = wide();
        for (int crew = 0; crew < 3; crew++) {
            x.addCrew(0);
        }
        x.addLeg(0, 1, 600, 660);
        x.addLeg(0, 2, 100, 115);
        x.addLeg(2, 0, 200, 215);
        x.addLeg(0, 3, 100, 115);
        x.addLeg(3, 0, 200, 185 + minutes);
        x.fly(0, 1);
        x.fly(0, 2);
        x.fly(1, 3);
        x.fly(1, 4);
        x.setReserve(0, 0, 6000);
        x.setReserve(1, 0, 6000);
        is("minutes of crew 0", x.minutes(0), 30);
        is("minutes of crew 1", x.minutes(1), minutes);
        return x;
    }

    /** All 24 legs are flown by crew 0 and ridden by the others. */
    private static CrewPairer crowded() {
        CrewPairer x = fullest();
        for (int crew = 1; crew < 6; crew++) {
            for (int leg = 0; leg < 24; leg++) {
                x.ride(crew, leg);
            }
        }
        return x;
    }

    /** Crew 0 loses leg 1 and crew 1 leg 0 by a repair; reserve 2 can fly one of them. Leg 1 departs at 480. */
    private static CrewPairer torn(int departureOfLeg0) {
        CrewPairer x = new CrewPairer();
        x.addCrew(3);
        x.addCrew(4);
        x.addCrew(0);
        x.addLeg(0, 1, departureOfLeg0, 540);
        x.addLeg(0, 2, 480, 540);
        x.addLeg(3, 0, 300, 360);
        x.addLeg(4, 0, 300, 360);
        x.fly(0, 2);
        x.fly(0, 1);
        x.fly(1, 3);
        x.fly(1, 0);
        x.cancel(2);
        x.cancel(3);
        x.setReserve(2, 0, 6000);
        return x;
    }

    @Sentence(of = "Description", says = "Reserves. A crew can be a reserve with a period from a start to an end.")
    static void descriptionUpToAllCrewsAreReserves() {
        CrewPairer x = shuttle(6);
        for (int crew = 0; crew < 6; crew++) {
            is("not yet", x.reserve(crew, 0), NONE);
            is("setReserve", x.setReserve(crew, crew, 6000 - crew), 0);
        }
        for (int crew = 0; crew < 6; crew++) {
            is("start", x.reserve(crew, 0), crew);
            is("end", x.reserve(crew, 1), 6000 - crew);
        }
        is("the lowest one is called", x.called(0), 0);
        is("nobody is paired", x.pair(), 0);
    }

    @Sentence(of = "Description", says = "A reserve is called for an open leg if it can fly the leg, the leg departs at least "
            + "120 minutes after the start of the period, and arrives at the end of the period or earlier;")
    static void descriptionAReserveHas120MinutesBeforeAndNoneBehind() {
        is("120 minutes after the start", reserve(360, 6000).called(0), 0);
        is("119 minutes", reserve(361, 6000).called(0), NONE);
        is("121 minutes", reserve(359, 6000).called(0), 0);
        is("at the end", reserve(0, 540).called(0), 0);
        is("a minute later", reserve(0, 539).called(0), NONE);
        is("a minute earlier", reserve(0, 541).called(0), 0);
        is("at both", reserve(360, 540).called(0), 0);
        is("it cannot fly leg 1", reserve(0, 6000).called(1), NONE);
        CrewPairer x = new CrewPairer();
        x.addCrew(0);
        x.addLeg(0, 1, 119, 120);
        x.addLeg(0, 1, 120, 121);
        x.addLeg(0, 1, 5998, 5999);
        x.setReserve(0, 0, 6000);
        is("119 minutes after minute 0", x.called(0), NONE);
        is("120 minutes after minute 0", x.called(1), 0);
        is("at the end of all", x.called(2), 0);
        x.setReserve(0, 0, 121);
        is("in the shortest period that has it", x.called(1), 0);
        x.setReserve(0, 0, 120);
        is("in a shorter one", x.called(1), NONE);
        x.setReserve(0, 5878, 5999);
        is("in the last period that has it", x.called(2), 0);
        x.setReserve(0, 5879, 6000);
        is("in a later one", x.called(2), NONE);
        x.setReserve(0, 5878, 5998);
        is("which ends earlier", x.called(2), NONE);
    }

    @Sentence(of = "Description",
            says = "of several reserves, it is the one with the least minutes, then the lowest one.")
    static void descriptionOfReservesTheLeastMinutesThenTheLowest() {
        is("crew 1 has a minute less", reserves(29).called(0), 1);
        is("both have the same minutes", reserves(30).called(0), 0);
        is("crew 1 has a minute more", reserves(31).called(0), 0);
        CrewPairer x = reserves(29);
        x.setReserve(1, 481, 6000);
        is("it starts too late", x.called(0), 0);
        x.setReserve(0, 0, 0);
        is("nobody is left", x.called(0), NONE);
        x.setReserve(2, 480, 660);
        is("but crew 2", x.called(0), 2);
    }

    @Sentence(of = "Description", says = "Repair. A repair goes through the crews in order, reserves included, and removes from "
            + "each row, as long as the row has violations, the item at the place of the first one.")
    static void descriptionARepairRemovesUpToAllItems() {
        CrewPairer x = crowded();
        is("nothing to remove", x.repair(), 0);
        x.setRule(4, 1);
        x.setReserve(0, 0, 6000);
        is("6 rows of 24 items, all of them", x.repair(), 144);
        for (int i = 0; i < 144; i += 11) {
            is("crew " + i, x.repaired(i, 0), i / 24);
            is("leg " + i, x.repaired(i, 1), i % 24);
            is("flown " + i, x.repaired(i, 2), i < 24 ? 1 : 0);
        }
        is("the last one", x.repaired(143, 0), 5);
        is("no more", x.repaired(144, 0), NONE);
        is("rows are empty", x.itemCount(1) + x.itemCount(5), 0);
        CrewPairer y = some();
        is("one", y.repair(), 1);
        is("the item at place 0", repaired(y), "0f1:-2");
    }

    @Sentence(of = "Description", says = "Then it goes through the open legs that were flown and removed by that, by departure, "
            + "then by number, and calls a reserve for each, if there is one.")
    static void descriptionReservesAreCalledByDepartureThenNumber() {
        String[] due = {"0f1:-2 1f0:2", "0f1:-2 1f0:2", "0f1:2 1f0:-2"};
        for (int i = 0; i < 3; i++) {
            CrewPairer x = torn(479 + i);
            is("two are removed", x.repair(), 2);
            is("leg 0 at " + (479 + i), repaired(x), due[i]);
            is("the reserve flies", row(x, 2), i < 2 ? "f0" : "f1");
        }
        CrewPairer y = torn(480);
        y.setReserve(2, 361, 6000);
        is("two are removed", y.repair(), 2);
        is("119 minutes after the start", repaired(y), "0f1:-2 1f0:-2");
        CrewPairer z = fullest();
        z.setRule(4, 1);
        z.setReserve(1, 0, 6000);
        is("a row of 24 legs", z.repair(), 24);
        StringBuilder all = new StringBuilder();
        for (int leg = 0; leg < 24; leg++) {
            all.append(leg > 0 ? " " : "").append("0f").append(leg).append(leg % 7 == 2 ? ":1" : ":-2");
        }
        is("the reserve is called for what it can fly, each leg in a duty of its own", repaired(z), all.toString());
        is("the reserve flies", row(z, 1), "f2 f9 f16 f23");
        CrewPairer v = new CrewPairer();
        v.addCrew(0);
        v.addCrew(0);
        v.addLeg(0, 1, 200, 260);
        v.addLeg(1, 0, 300, 360);
        v.fly(0, 0);
        v.fly(0, 1);
        v.setRule(4, 1);
        is("both items", v.repair(), 2);
        is("there is no reserve", repaired(v), "0f0:-2 0f1:-2");
        v.setReserve(1, 0, 6000);
        is("again", v.repair(), 0);
        is("nobody is called for what the repair before removed", row(v, 1), "");
        v.undo();
        v.undo();
        v.undo();
        v.setReserve(1, 0, 6000);
        is("both items again", v.repair(), 2);
        is("the reserve is called for the very first leg", repaired(v), "0f0:1 0f1:-2");
        CrewPairer w = shuttle(2);
        w.ride(0, 0);
        w.ride(0, 1);
        w.setReserve(1, 0, 6000);
        w.drop(0, 0);
        is("a deadhead is removed", w.repair(), 1);
        is("nobody is called for it, nor for leg 0, which was open", repaired(w), "0r1:-2");
        is("the reserve does not fly", row(w, 1), "");
    }

    @Sentence(of = "Promise 25", says = "Returns the number of open legs.")
    static void promise25OpenLegsAre0To24() {
        is("nothing there yet", new CrewPairer().openCount(), 0);
        CrewPairer x = fullest();
        is("all are covered", x.openCount(), 0);
        for (int leg = 0; leg < 24; leg++) {
            x.drop(0, leg);
            is("dropped", x.openCount(), leg + 1);
        }
        for (int leg = 0; leg < 24; leg++) {
            x.cancel(leg);
            is("cancelled", x.openCount(), 23 - leg);
        }
    }

    @Sentence(of = "Promise 26", says = {"Returns an open leg.",
        "- `i`: the position, from 0, in the order by departure, then by number",
        "Returns the number of the leg; NONE if there is no such position."})
    static void promise26PositionsAreThoseOfOpenLegs() {
        is("nothing there yet", new CrewPairer().open(0), NONE);
        is("all are covered", fullest().open(0), NONE);
        is("the first", some().open(0), 0);
        is("the last", some().open(3), 5);
        for (int wrong : new int[] {-1, 4, 24, LOW, HIGH}) {
            refused("position " + wrong, Begin.SOME, x -> x.open(wrong), NONE);
        }
        CrewPairer x = new CrewPairer();
        for (int leg = 0; leg < 24; leg++) {
            x.addLeg(leg % 6, (leg + 1) % 6, 1000 - leg / 6, 1100);
        }
        int[] due = {18, 19, 20, 21, 22, 23, 12, 13, 14, 15, 16, 17, 6, 7, 8, 9, 10, 11, 0, 1, 2, 3, 4, 5};
        for (int i = 0; i < 24; i++) {
            is("by departure, then by number: " + i, x.open(i), due[i]);
        }
        is("behind the last of 24", x.open(24), NONE);
        is("before the first of 24", x.open(-1), NONE);
    }

    @Sentence(of = "Promise 27", says = {
        "Moves the departure and the arrival of a leg, cancelled or not, which is reordered in all rows that have it.",
        "Returns the number of crews whose rows have violations then;"})
    static void promise27RowsAreReorderedAndCrewsCounted0To6() {
        CrewPairer x = crowded();
        is("none", x.delay(0, 10), 0);
        is("all six", x.delay(0, 1), 6);
        is("none again", x.delay(0, -11), 0);
        is("behind leg 1", x.delay(0, 61), 6);
        for (int crew = 0; crew < 6; crew++) {
            is("reordered", x.item(crew, 0, 0), 1);
            is("reordered", x.item(crew, 1, 0), 0);
        }
        x.delay(0, -61);
        x.drop(3, 23);
        x.drop(3, 22);
        is("five rows that have it", x.delay(23, -31), 5);
        CrewPairer y = some();
        is("crew 0 has a violation anyway", y.delay(4, 1), 1);
        is("a cancelled leg", y.delay(6, 600), 1);
        is("its departure", y.leg(6, 2), 3600);
        is("its arrival", y.leg(6, 3), 3700);
        is("no crews", shuttle(0).delay(0, 1), 0);
    }

    @Sentence(of = "Promise 27", says = {"- `leg`: the number of the leg",
        "- `minutes`: the minutes, -600 to 600, also 0; negative ones make it earlier",
        "BAD if there is no such leg or minutes is out of range;"})
    static void promise27MinutesAreFromMinus600To600() {
        CrewPairer x = some();
        is("600", x.delay(4, 600), 1);
        is("later", x.leg(4, 2), 2600);
        is("-600", x.delay(4, -600), 1);
        is("earlier", x.leg(4, 2), 2000);
        is("0", x.delay(4, 0), 1);
        is("the same", x.leg(4, 2), 2000);
        for (int wrong : new int[] {-601, 601, LOW, HIGH}) {
            refused("minutes " + wrong, Begin.SOME, y -> y.delay(4, wrong), BAD);
            is("BAD is mentioned before RANGE", some().delay(0, wrong), BAD);
        }
        for (int wrong : new int[] {-1, 7, 24, LOW, HIGH}) {
            refused("leg " + wrong, Begin.SOME, y -> y.delay(wrong, 0), BAD);
        }
        is("leg 24 of 24", fullest().delay(24, 0), BAD);
    }

    @Sentence(of = "Promise 27", says = "RANGE if the departure would be negative or the arrival greater than 5999;")
    static void promise27TimesStayFrom0To5999() {
        is("to 0", some().delay(0, -480), 1);
        refused("to -1", Begin.SOME, x -> x.delay(0, -481), RANGE);
        refused("to -120", Begin.SOME, x -> x.delay(0, -600), RANGE);
        CrewPairer x = new CrewPairer();
        x.addLeg(0, 1, 5300, 5400);
        x.addLeg(0, 1, 5890, 5900);
        is("to 5999", x.delay(0, 599), 0);
        is("back", x.delay(0, -599), 0);
        is("to 6000", x.delay(0, 600), RANGE);
        is("still there", x.leg(0, 3), 5400);
        is("the other leg to 6000", x.delay(1, 100), RANGE);
        is("the other leg to 5999", x.delay(1, 99), 0);
        is("it is at the end", x.leg(1, 3), 5999);
        is("a minute more", x.delay(1, 1), RANGE);
        CrewPairer y = new CrewPairer();
        y.addLeg(0, 1, 5000, 5500);
        y.addLeg(0, 1, 5590, 5600);
        is("RANGE is mentioned before DUPLICATE", y.delay(0, 590), RANGE);
        is("unchanged", y.leg(0, 2), 5000);
        CrewPairer z = new CrewPairer();
        z.addLeg(0, 1, 0, 600);
        is("no minutes at 0", z.delay(0, 0), 0);
        is("a minute earlier", z.delay(0, -1), RANGE);
    }

    @Sentence(of = "Promise 27",
            says = "DUPLICATE if another leg, cancelled or not, has the same airports and this departure.")
    static void promise27AnotherLegIsNotThere() {
        refused("leg 0 to leg 2", Begin.SOME, x -> x.delay(0, 240), DUPLICATE);
        refused("leg 2 to leg 0", Begin.SOME, x -> x.delay(2, -240), DUPLICATE);
        is("a minute less", some().delay(0, 239), 1);
        is("a minute more", some().delay(0, 241), 1);
        is("to itself", some().delay(0, 0), 1);
        is("to leg 1, which leads the other way", some().delay(0, 210), 1);
        CrewPairer x = some();
        x.addLeg(3, 4, 3100, 3101);
        is("to a cancelled one", x.delay(7, -100), DUPLICATE);
        is("a cancelled one to another one", x.delay(6, 100), DUPLICATE);
        x.cancel(7);
        is("a cancelled one to a cancelled one", x.delay(6, 100), DUPLICATE);
        is("away", x.delay(7, 1), 1);
        is("there is no other leg any more", x.delay(6, 100), 1);
    }

    @Sentence(of = "Promise 28", says = {"Cancels a leg, which leaves all rows.", "- `leg`: the number of the leg",
        "Returns the number of rows that had it; BAD if there is no such leg;"})
    static void promise28RowsAre0To6() {
        CrewPairer x = crowded();
        is("six rows", x.cancel(23), 6);
        for (int crew = 0; crew < 6; crew++) {
            is("items left", x.itemCount(crew), 23);
            x.drop(crew, 22);
        }
        is("no row", x.cancel(22), 0);
        is("one row", some().cancel(1), 1);
        is("no row", some().cancel(5), 0);
        for (int wrong : new int[] {-1, 7, 24, LOW, HIGH}) {
            refused("leg " + wrong, Begin.SOME, y -> y.cancel(wrong), BAD);
        }
        is("leg 24 of 24", fullest().cancel(24), BAD);
    }

    @Sentence(of = "Promise 28", says = "NONE if it is cancelled already.")
    static void promise28ACancelledLeg() {
        refused("again", Begin.SOME, x -> x.cancel(6), NONE);
        CrewPairer x = some();
        is("leg 0", x.cancel(0), 1);
        is("again", x.cancel(0), NONE);
        x.undo();
        is("undone, then again", x.cancel(0), 1);
    }

    @Sentence(of = "Promise 29", says = {"Makes a crew a reserve, in place of an earlier period, or no reserve.",
        "- `crew`: the crew", "- `start`: the start of the period, 0 to 5999",
        "- `end`: its end, greater than start, at most 6000; equal to start to make the crew no reserve",
        "BAD if an argument is not as described."})
    static void promise29StartIs0To5999AndEndAtMost6000() {
        int[][] right = {{0, 1}, {0, 6000}, {5999, 6000}, {5998, 5999}};
        for (int[] period : right) {
            CrewPairer x = shuttle(1);
            is("period", x.setReserve(0, period[0], period[1]), 0);
            is("start", x.reserve(0, 0), period[0]);
            is("end", x.reserve(0, 1), period[1]);
            is("no reserve at the start " + period[0], x.setReserve(0, period[0], period[0]), 1);
            is("it is none", x.reserve(0, 0), NONE);
            is("nor has it an end", x.reserve(0, 1), NONE);
        }
        int[][] wrong = {{-1, 100}, {-1, -1}, {6000, 6000}, {6000, 6001}, {0, -1}, {100, 99}, {5999, 5998}, {0, 6001},
            {5999, 6001}, {LOW, 100}, {LOW, LOW}, {HIGH, 100}, {HIGH, HIGH}, {HIGH, LOW}, {0, LOW}, {0, HIGH}};
        for (int[] period : wrong) {
            refused(period[0] + " to " + period[1] + " for a reserve", Begin.SOME, x -> x.setReserve(2, period[0], period[1]), BAD);
            is(period[0] + " to " + period[1] + " for another crew", some().setReserve(0, period[0], period[1]), BAD);
        }
        for (int crew : new int[] {-1, 3, 6, LOW, HIGH}) {
            refused("crew " + crew, Begin.SOME, x -> x.setReserve(crew, 0, 6000), BAD);
            is("crew " + crew + " no reserve", some().setReserve(crew, 0, 0), BAD);
        }
    }

    @Sentence(of = "Promise 29", says = "Returns 1 if it was a reserve before, 0 if not;")
    static void promise29WhetherItWasAReserveBefore() {
        CrewPairer x = shuttle(1);
        is("not yet, nor then", x.setReserve(0, 5, 5), 0);
        is("not yet", x.setReserve(0, 5, 6), 0);
        is("it was", x.setReserve(0, 7, 9), 1);
        is("in place of the earlier period", x.reserve(0, 0), 7);
        is("in place of the earlier period", x.reserve(0, 1), 9);
        is("it was", x.setReserve(0, 9, 9), 1);
        is("it was not", x.setReserve(0, 0, 0), 0);
        is("it was not", x.setReserve(0, 0, 1), 0);
    }

    @Sentence(of = "Promise 30", says = {"Returns the period of a reserve.", "- `crew`: the crew",
        "- `what`: 0 for the start, 1 for the end",
        "Returns the time; BAD if there is no such crew or what is out of range; NONE if it is no reserve."})
    static void promise30WhatIs0To1() {
        is("start", some().reserve(2, 0), 0);
        is("end", some().reserve(2, 1), 6000);
        refused("no reserve", Begin.SOME, x -> x.reserve(0, 0), NONE);
        refused("no reserve", Begin.SOME, x -> x.reserve(1, 1), NONE);
        for (int wrong : new int[] {-1, 2, LOW, HIGH}) {
            refused("what " + wrong, Begin.SOME, x -> x.reserve(2, wrong), BAD);
            is("BAD is mentioned before NONE", some().reserve(0, wrong), BAD);
        }
        for (int wrong : new int[] {-1, 3, 6, LOW, HIGH}) {
            refused("crew " + wrong, Begin.SOME, x -> x.reserve(wrong, 0), BAD);
        }
    }

    @Sentence(of = "Promise 31", says = {"Returns the reserve that would be called for a leg.", "- `leg`: the number of the leg",
        "Returns the crew; BAD if there is no such leg; NONE if there is none or the leg is not open."})
    static void promise31LegIsOneThatIsThereAndOpen() {
        int[] due = {NONE, NONE, NONE, 2, NONE, NONE, NONE};
        for (int leg = 0; leg < 7; leg++) {
            is("for leg " + leg, some().called(leg), due[leg]);
        }
        for (int wrong : new int[] {-1, 7, 24, LOW, HIGH}) {
            refused("leg " + wrong, Begin.SOME, x -> x.called(wrong), BAD);
        }
        refused("nobody can fly it", Begin.SOME, x -> x.called(5), NONE);
        refused("covered", Begin.SOME, x -> x.called(1), NONE);
        refused("cancelled", Begin.SOME, x -> x.called(6), NONE);
        CrewPairer x = reserve(0, 6000);
        is("open", x.called(0), 0);
        x.fly(0, 0);
        is("covered", x.called(0), NONE);
        x.drop(0, 0);
        x.cancel(0);
        is("cancelled", x.called(0), NONE);
        is("no reserves", shuttle(6).called(0), NONE);
        is("leg 24 of 24", fullest().called(24), BAD);
    }

    @Sentence(of = "Promise 34", says = {"Repairs.", "Returns the number of items that were removed."})
    static void promise34ItemsAre0To144() {
        is("nothing there yet", new CrewPairer().repair(), 0);
        is("empty rows", shuttle(6).repair(), 0);
        is("no violations", fullest().repair(), 0);
        is("one", some().repair(), 1);
        CrewPairer x = crowded();
        x.setRule(4, 1);
        is("all", x.repair(), 144);
        is("again", x.repair(), 0);
    }

    @Sentence(of = "Promise 35", says = {
        "Returns a part of an item that the latest repair removed, also one in a command text that had no effect.",
        "It stays the same whatever changes until the next repair; undo does not affect it."})
    static void promise35TheListIsOfTheLatestRepair() {
        is("no repair yet", new CrewPairer().repaired(0, 0), NONE);
        CrewPairer x = some();
        for (int i = 7; i >= 0; i--) {
            is("undo", x.undo(), i);
            is("undone", repaired(x), "0f2:2");
        }
        is("restore", x.restore(), 7);
        x.cancel(2);
        x.setRule(0, 10);
        x.delay(1, 7);
        is("changed", repaired(x), "0f2:2");
        is("a repair", x.repair(), 0);
        is("removed nothing", repaired(x), "");
        CrewPairer y = some();
        is("a text without a repair", y.execute(), 1);
        is("is a change like others", repaired(y), "0f2:2");
        y.undo();
        is("a repair in a text that had no effect", run(y, "repair;crew 6"), -301);
        is("removed leg 1", repaired(y), "0f1:-2");
        is("which is there yet", row(y, 0), "f1");
        is("a repair behind the command that fails", run(y, "drop 0 1;crew 6;repair"), -301);
        is("is not made", repaired(y), "0f1:-2");
        is("nor one in a wrong text", run(y, "drop 0 1;repair;"), -216);
        is("is made", repaired(y), "0f1:-2");
        is("a repair of nothing in a text that had no effect", run(y, "drop 0 1;repair;crew 6"), -302);
        is("removed nothing", repaired(y), "");
        is("undo", y.undo(), 6);
        is("does not affect it", repaired(y), "");
    }

    @Sentence(of = "Promise 35", says = {"- `i`: the position in the order of removal, from 0",
        "- `what`: 0 for the crew, 1 for the leg, 2 for 1 if it was flown and 0 if it was a deadhead, 3 for the reserve that was "
        + "called for it, NONE if there was none or it was a deadhead",
        "Returns the part; BAD if what is out of range; NONE if there is no such item."})
    static void promise35WhatIs0To3AndPositionsAreThoseOfTheList() {
        int[] due = {0, 2, 1, 2};
        for (int what = 0; what < 4; what++) {
            is("what " + what, some().repaired(0, what), due[what]);
            is("what " + what + " of no item", some().repaired(1, what), NONE);
        }
        for (int wrong : new int[] {-1, 4, LOW, HIGH}) {
            refused("what " + wrong, Begin.SOME, x -> x.repaired(0, wrong), BAD);
            is("BAD is mentioned before NONE", some().repaired(1, wrong), BAD);
            is("also before any repair", new CrewPairer().repaired(0, wrong), BAD);
        }
        for (int wrong : new int[] {-1, 1, 24, LOW, HIGH}) {
            refused("position " + wrong, Begin.SOME, x -> x.repaired(wrong, 0), NONE);
        }
        CrewPairer x = crowded();
        x.setRule(4, 1);
        x.repair();
        int[] last = {5, 23, 0, NONE};
        for (int what = 0; what < 4; what++) {
            is("the last of 144, what " + what, x.repaired(143, what), last[what]);
            is("behind it, what " + what, x.repaired(144, what), NONE);
        }
    }
}
