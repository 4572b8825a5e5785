/** The boundary cases of rows: duties, violations, windows, pairings and costs, and the promises 14 to 24. */
final class BoundaryRows extends Refusals {
    private BoundaryRows() {
    }

    /** A crew at 0 that flies to 1 from 100 to 160 and back behind a gap, for 40 minutes. */
    private static CrewPairer pairWithGap(int gap) {
        CrewPairer x = wide();
        x.addCrew(0);
        x.addLeg(0, 1, 100, 160);
        x.addLeg(1, 0, 160 + gap, 200 + gap);
        is("fly", x.fly(0, 0), 0);
        is("fly", x.fly(0, 1), 1);
        return x;
    }

    /** fullest() with 21 + 3 + 3 + 3 + 2 violations of the kinds 3 to 7. */
    private static CrewPairer wronged() {
        CrewPairer x = fullest();
        x.setRule(0, 41);
        x.setRule(2, 439);
        x.setRule(3, 159);
        x.setRule(4, 7);
        x.setRule(5, 319);
        return x;
    }

    @Sentence(of = "Description", says = {"Duties. The gap between two neighbouring items is the time from the arrival of "
            + "the first one to the departure of the second one.",
        "The items of a row fall into duties: a gap that is at least the rest ends a duty."})
    static void descriptionAGapThatIsTheRestEndsADuty() {
        for (int rest : new int[] {300, 301, 599, 600, 899, 900}) {
            CrewPairer x = wide();
            x.setRule(1, rest);
            x.addCrew(0);
            x.addLeg(0, 1, 0, 60);
            x.addLeg(1, 0, 60 + rest, 120 + rest);
            x.fly(0, 0);
            is("no gap", x.dutyCount(0), 1);
            x.fly(0, 1);
            is("a gap of the rest", x.dutyCount(0), 2);
            is("the second item is in duty 1", x.item(0, 1, 2), 1);
            x.delay(1, -1);
            is("a minute less", x.dutyCount(0), 1);
            is("the second item is in duty 0", x.item(0, 1, 2), 0);
            x.delay(1, 2);
            is("a minute more", x.dutyCount(0), 2);
            x.delay(1, -300);
            x.delay(1, 300 - rest - 1);
            is("no minute between them", x.dutyCount(0), 1);
            x.delay(1, -1);
            is("less than none", x.dutyCount(0), 1);
        }
    }

    @Sentence(of = "Description", says = {"Violations. A violation has a kind and a place, which is the position of an item "
            + "in the row.", "These are the violations of a row, ordered by their kinds, then by their places:"})
    static void descriptionViolationsAreOrderedByKindThenPlace() {
        CrewPairer x = wronged();
        StringBuilder due = new StringBuilder();
        for (int place = 0; place < 24; place++) {
            due.append(place % 8 == 0 ? "" : "3@" + place + " ");
        }
        is("of 24 items", violations(x, 0), due + "4@0 4@8 4@16 5@0 5@8 5@16 6@0 6@8 6@16 7@0 7@8");
        is("of no items", violations(x, 1), "");
        x.delay(9, -60);
        is("a later place, but the first kind", x.violation(0, 0, 0), 1);
        is("comes first", x.violation(0, 0, 1), 9);
        CrewPairer y = pairWithGap(30);
        y.delay(1, -91);
        is("kind 1 at the later place comes before kind 2", violations(y, 0), "1@1 2@0");
    }

    @Sentence(of = "Description", says = "1: the item departs before the item before it has arrived")
    static void descriptionViolation1IsAGapBelow0() {
        CrewPairer x = pairWithGap(30);
        x.delay(1, -30);
        is("a gap of 0", violations(x, 0), "3@1");
        x.delay(1, -1);
        is("a gap of -1", violations(x, 0), "1@1");
        x.delay(1, -59);
        is("the same departure", violations(x, 0), "1@1");
        x.delay(1, -1);
        is("the other one is the first one then", violations(x, 0), "1@1 2@0");
        x.delay(1, -39);
        is("a gap of 0 the other way round", violations(x, 0), "2@0 3@1");
        x.drop(0, 0);
        is("a first item has no item before it", violations(x, 0), "2@0");
    }

    @Sentence(of = "Description", says = "2: the item does not depart from where the item before it arrives, or, as the "
            + "first item, not from the base")
    static void descriptionViolation2IsTheWrongAirport() {
        CrewPairer x = wide();
        x.addCrew(5);
        x.addLeg(5, 0, 100, 160);
        x.addLeg(0, 5, 200, 260);
        x.addLeg(5, 4, 300, 360);
        for (int leg = 0; leg < 3; leg++) {
            x.fly(0, leg);
        }
        is("connected", violations(x, 0), "");
        x.drop(0, 1);
        is("from 5 instead of 0", violations(x, 0), "2@1");
        x.drop(0, 0);
        is("the first item departs from the base", violations(x, 0), "");
        x.fly(0, 0);
        is("a refused one", x.itemCount(0), 1);
        CrewPairer y = wide();
        y.addCrew(0);
        y.addLeg(0, 1, 100, 160);
        y.addLeg(1, 2, 200, 260);
        y.fly(0, 0);
        y.fly(0, 1);
        y.drop(0, 0);
        is("the first item does not", violations(y, 0), "2@0");
    }

    @Sentence(of = "Description", says = "3: the gap before the item is not negative, but less than the connection")
    static void descriptionViolation3IsAGapBelowTheConnection() {
        for (int connection : new int[] {10, 11, 30, 119, 120}) {
            CrewPairer x = pairWithGap(connection > 30 ? connection : 30);
            x.setRule(0, connection);
            x.delay(1, 160 + connection - x.leg(1, 2));
            is("a gap of the connection", violations(x, 0), "");
            x.delay(1, -1);
            is("a minute less", violations(x, 0), "3@1");
            x.delay(1, 1 - connection);
            is("a gap of 0", violations(x, 0), "3@1");
            x.delay(1, -1);
            is("a gap of -1", violations(x, 0), "1@1");
        }
    }

    @Sentence(of = "Description", says = "4: the item is the first one of a duty, and from its departure to the arrival of "
            + "the last item of the duty it takes more minutes than the duty rule allows")
    static void descriptionViolation4IsMoreThanTheDutyRule() {
        for (int most : new int[] {300, 301, 720, 959, 960}) {
            CrewPairer x = wide();
            x.setRule(1, 900);
            x.addCrew(0);
            x.addLeg(0, 1, 100, 160);
            x.addLeg(1, 0, 40 + most, 100 + most);
            x.setRule(2, most);
            x.ride(0, 0);
            is("as many minutes as the rule allows", x.ride(0, 1), 1);
            is("are no violation", violations(x, 0), "");
            x.delay(1, 1);
            is("a minute more", violations(x, 0), "4@0");
            x.setRule(1, most - 119);
            is("it is two duties then, of 60 minutes each", violations(x, 0), most - 119 >= 300 ? "" : "4@0");
        }
        CrewPairer y = wide();
        y.addCrew(0);
        y.setRule(2, 300);
        y.addLeg(0, 1, 100, 401);
        is("one item", y.reason(0, 0, false), 4);
        y.delay(0, 600);
        y.delay(0, 600);
        y.addLeg(0, 1, 0, 100);
        y.addLeg(1, 0, 200, 300);
        y.ride(0, 1);
        y.ride(0, 2);
        is("the second duty", y.reason(0, 0, false), 4);
        is("begins at item 2", y.place(0, 0, false), 2);
    }

    @Sentence(of = "Description", says = "5: the item is the first one of a duty in which the lengths of the flown legs "
            + "together are more than the flight rule allows")
    static void descriptionViolation5IsMoreThanTheFlightRule() {
        for (int most : new int[] {120, 121, 480, 719, 720}) {
            CrewPairer x = wide();
            x.addCrew(0);
            int first = most / 2;
            x.addLeg(0, 1, 100, 100 + first);
            x.addLeg(1, 0, 200 + first, 200 + most);
            x.addLeg(0, 1, 230 + most, 231 + most);
            x.setRule(3, most);
            x.fly(0, 0);
            is("as many minutes as the rule allows", x.fly(0, 1), 1);
            is("are no violation", violations(x, 0), "");
            is("a minute more", x.reason(0, 2, true), 5);
            is("at the first one of the duty", x.place(0, 2, true), 0);
            is("a minute more is ridden", x.ride(0, 2), 2);
            if (most > 120) {
                x.setRule(3, most - 1);
                is("a minute less is allowed", violations(x, 0), "5@0");
            }
        }
        CrewPairer y = wronged();
        y.setRule(3, 160);
        y.setRule(0, 40);
        y.setRule(2, 440);
        y.setRule(4, 8);
        y.setRule(5, 1200);
        is("160 minutes in each of three duties", violations(y, 0), "");
        y.setRule(3, 159);
        is("are more than 159", violations(y, 0), "5@0 5@8 5@16");
    }

    @Sentence(of = "Description", says = "6: the item is the first one of a duty with more items than the legs rule allows")
    static void descriptionViolation6IsMoreThanTheLegsRule() {
        for (int most = 1; most <= 8; most++) {
            CrewPairer x = wide();
            x.addCrew(0);
            x.setRule(4, most);
            for (int leg = 0; leg <= most; leg++) {
                x.addLeg(leg % 2, 1 - leg % 2, 60 * leg, 60 * leg + 20);
            }
            for (int leg = 0; leg < most; leg++) {
                is("as many as the rule allows", leg % 2 == 0 ? x.fly(0, leg) : x.ride(0, leg), leg);
            }
            is("are no violation", violations(x, 0), "");
            is("one more, flown", x.reason(0, most, true), 6);
            is("one more, ridden", x.reason(0, most, false), 6);
            is("at the first one of the duty", x.place(0, most, false), 0);
            x.delay(most, 600);
            is("one more in a duty of its own", x.reason(0, most, true), 0);
        }
    }

    @Sentence(of = "Description", says = "7: the item is flown, and the minutes flown within 1440 minutes from its departure "
            + "on are more than the window rule allows")
    static void descriptionViolation7IsMoreThanTheWindowRule() {
        CrewPairer x = wide();
        x.addCrew(0);
        x.setRule(5, 120);
        x.addLeg(0, 1, 0, 120);
        x.addLeg(1, 0, 1440, 1500);
        x.fly(0, 0);
        is("120 minutes, then nothing until minute 1439", x.fly(0, 1), 1);
        is("are no violation", violations(x, 0), "");
        x.delay(1, -1);
        is("a minute more, in minute 1439", violations(x, 0), "7@0");
        x.setRule(5, 121);
        is("121 minutes are allowed", violations(x, 0), "");
        x.setRule(5, 120);
        x.drop(0, 0);
        x.ride(0, 0);
        is("if the item is ridden, it has no window", violations(x, 0), "");
        x.drop(0, 0);
        x.drop(0, 1);
        x.fly(0, 0);
        x.ride(0, 1);
        is("if the minute is ridden, it does not count", violations(x, 0), "");
    }

    @Sentence(of = "Description", says = "the minutes flown within 1440 minutes from its departure on are more than the window "
            + "rule allows")
    static void descriptionViolation7WithTheGreatestWindowRule() {
        CrewPairer x = wide();
        x.addCrew(0);
        x.addLeg(0, 1, 0, 600);
        x.addLeg(1, 0, 1200, 1800);
        x.addLeg(0, 2, 2400, 2401);
        for (int leg = 0; leg < 3; leg++) {
            is("fly", x.fly(0, leg), leg);
        }
        x.delay(1, -600);
        x.delay(1, -600);
        for (int i = 0; i < 4; i++) {
            x.delay(2, -600);
        }
        is("1201 minutes at once", violations(x, 0), "1@1 1@2 5@0 7@0 7@1 7@2");
        x.drop(0, 2);
        is("1200 minutes at once", violations(x, 0), "1@1 5@0");
        x.setRule(5, 1199);
        is("a minute less is allowed", violations(x, 0), "1@1 5@0 7@0 7@1");
    }

    @Sentence(of = "Description", says = "Windows. The minutes flown within a number of minutes from a start on are the sum, "
            + "over the flown legs of the row, of the minutes of the leg from the start to this number of minutes later.")
    static void descriptionWindowsBeginAtTheStartAndEndBeforeItsEnd() {
        CrewPairer x = shuttle(1);
        is("of an empty row", x.within(0, 0, 6000), 0);
        x.fly(0, 0);
        int[][] due = {{0, 480, 0}, {0, 481, 1}, {479, 1, 0}, {479, 2, 1}, {480, 1, 1}, {480, 59, 59}, {480, 60, 60},
            {480, 61, 60}, {481, 59, 59}, {481, 60, 59}, {539, 1, 1}, {539, 6000, 1}, {540, 1, 0}, {540, 6000, 0},
            {500, 10, 10}, {0, 6000, 60}, {0, 540, 60}, {0, 539, 59}};
        for (int[] each : due) {
            is("from " + each[0] + ", minutes " + each[1], x.within(0, each[0], each[1]), each[2]);
        }
        x.ride(0, 1);
        x.fly(0, 2);
        is("the last minute of a leg and the first of another one", x.within(0, 539, 182), 2);
        is("none of either", x.within(0, 540, 180), 0);
        is("both, but not the deadhead between", x.within(0, 480, 300), 120);
    }

    @Sentence(of = "Description",
            says = "Pairings and costs. A crew is home if its row is empty or its last item arrives at its base.")
    static void descriptionHomeIsAnEmptyRowOrTheBaseAtLast() {
        CrewPairer x = shuttle(1);
        is("an empty row", x.home(0), 1);
        x.ride(0, 0);
        is("one item, away", x.home(0), 0);
        x.ride(0, 1);
        is("two items, back", x.home(0), 1);
        x.delay(1, -121);
        is("the one that was back is the first one", x.home(0), 0);
        is("24 items, back", fullest().home(0), 1);
        CrewPairer y = shuttle(0);
        y.addCrew(5);
        is("an empty row at 5", y.home(0), 1);
    }

    @Sentence(of = "Description", says = "The number of pairings of a crew is the number of its items that arrive at the base "
            + "and end a duty; the last item of the row ends one, too.")
    static void descriptionPairingsEndDutiesAtTheBase() {
        CrewPairer x = wide();
        x.addCrew(0);
        int[][] times = {{0, 60}, {100, 160}, {760, 820}, {860, 920}, {1520, 1580}};
        for (int i = 0; i < 5; i++) {
            x.addLeg(i % 2, 1 - i % 2, times[i][0], times[i][1]);
        }
        int[] due = {0, 1, 1, 2, 2};
        is("an empty row", x.pairings(0), 0);
        for (int i = 0; i < 5; i++) {
            is("fly", x.fly(0, i), i);
            is("with item " + i, x.pairings(0), due[i]);
        }
        x.delay(4, -1);
        is("a gap of 599 behind item 3", x.pairings(0), 1);
        x.delay(2, -1);
        is("a gap of 599 behind item 1", x.pairings(0), 0);
        x.drop(0, 4);
        is("the last item ends a duty", x.pairings(0), 1);
        is("three duties that end at the base", fullest().pairings(0), 3);
    }

    @Sentence(of = "Description", says = "A night is a gap that is at least the rest, after an item, flown or not, that does "
            + "not arrive at the base.")
    static void descriptionANightIsAGapOfTheRestAwayFromTheBase() {
        for (int rest : new int[] {300, 600, 900}) {
            CrewPairer x = wide();
            x.setRule(1, rest);
            x.setRule(7, 1);
            x.addCrew(0);
            x.addLeg(0, 1, 0, 60);
            x.addLeg(1, 0, 60 + rest, 120 + rest);
            x.addLeg(0, 1, 120 + 2 * rest, 180 + 2 * rest);
            x.fly(0, 0);
            is("no gap behind the last item", x.cost(0, 1), 0);
            x.fly(0, 1);
            is("a gap of the rest behind a flown item", x.cost(0, 1), 1);
            x.fly(0, 2);
            is("the gap at the base is none", x.cost(0, 1), 1);
            x.drop(0, 0);
            x.ride(0, 0);
            is("a gap of the rest behind a deadhead", x.cost(0, 1), 1);
            x.delay(1, -1);
            is("a minute less", x.cost(0, 1), 0);
        }
    }

    @Sentence(of = "Description",
            says = "The cost of a crew consists of the lengths of its deadheads times their cost, and of its nights times theirs.")
    static void descriptionCostsAreOfDeadheadsAndNights() {
        CrewPairer x = wide();
        x.addCrew(0);
        x.addLeg(0, 1, 0, 1);
        x.addLeg(1, 0, 601, 1201);
        is("an empty row", x.cost(0, 2), 0);
        x.ride(0, 0);
        is("a deadhead of 1 minute", x.cost(0, 2), 10);
        x.ride(0, 1);
        is("601 minutes", x.cost(0, 0), 6010);
        is("a night", x.cost(0, 1), 500);
        x.setRule(6, 99);
        x.setRule(7, 9999);
        is("at the greatest costs", x.cost(0, 2), 601 * 99 + 9999);
        x.setRule(6, 0);
        is("at the least cost of a deadhead", x.cost(0, 2), 9999);
        x.setRule(7, 0);
        is("and of a night", x.cost(0, 2), 0);
        CrewPairer y = fullest();
        for (int crew = 1; crew < 6; crew++) {
            for (int leg = 0; leg < 24; leg++) {
                y.ride(crew, leg);
            }
        }
        y.setRule(6, 99);
        is("five rows of 24 deadheads of 20 minutes", y.cost(-1, 2), 5 * 24 * 20 * 99);
    }

    @Sentence(of = "Promise 14", says = {"Returns the number of items of a row.", "- `crew`: the crew",
        "Returns the number of items; BAD if there is no such crew."})
    static void promise14CrewIsOneThatIsThere() {
        CrewPairer x = fullest();
        is("of the first", x.itemCount(0), 24);
        is("of the last", x.itemCount(5), 0);
        for (int wrong : new int[] {-1, 3, 6, LOW, HIGH}) {
            refused("crew " + wrong, Begin.SOME, y -> y.itemCount(wrong), BAD);
        }
        is("no crew yet", new CrewPairer().itemCount(0), BAD);
        is("crew 6", x.itemCount(6), BAD);
    }

    @Sentence(of = "Promise 15", says = {"Returns a number of an item of a row.", "- `crew`: the crew", "- `i`: its position",
        "- `what`: 0 for the leg, 1 for 1 if it is flown and 0 if it is a deadhead, 2 for the number of its duty, from 0",
        "Returns the number; BAD if there is no such crew or what is out of range;"})
    static void promise15WhatIs0To2() {
        CrewPairer x = fullest();
        x.ride(5, 0);
        int[] last = {23, 1, 2};
        int[] first = {0, 0, 0};
        for (int what = 0; what < 3; what++) {
            is("the last item, what " + what, x.item(0, 23, what), last[what]);
            is("a deadhead, what " + what, x.item(5, 0, what), first[what]);
        }
        for (int wrong : new int[] {-1, 3, LOW, HIGH}) {
            refused("what " + wrong, Begin.SOME, y -> y.item(0, 0, wrong), BAD);
            refused("what " + wrong + " of no item", Begin.SOME, y -> y.item(0, 1, wrong), BAD);
        }
        for (int wrong : new int[] {-1, 3, 6, LOW, HIGH}) {
            refused("crew " + wrong, Begin.SOME, y -> y.item(wrong, 0, 0), BAD);
        }
    }

    @Sentence(of = "Promise 15", says = "NONE if there is no such item.")
    static void promise15PositionsAreThoseOfTheRow() {
        for (int wrong : new int[] {-1, 1, 24, LOW, HIGH}) {
            refused("position " + wrong, Begin.SOME, x -> x.item(0, wrong, 0), NONE);
        }
        for (int wrong : new int[] {-1, 24, LOW, HIGH}) {
            is("position " + wrong + " of 24", fullest().item(0, wrong, 0), NONE);
        }
        is("an empty row", fullest().item(5, 0, 2), NONE);
    }

    @Sentence(of = "Promise 16", says = {"Returns the number of duties of a row.", "- `crew`: the crew",
        "Returns the number of duties, 0 for an empty row; BAD if there is no such crew."})
    static void promise16DutiesAre0ForAnEmptyRow() {
        CrewPairer x = fullest();
        is("an empty row", x.dutyCount(5), 0);
        is("24 items", x.dutyCount(0), 3);
        for (int wrong : new int[] {-1, 3, 6, LOW, HIGH}) {
            refused("crew " + wrong, Begin.SOME, y -> y.dutyCount(wrong), BAD);
        }
        CrewPairer y = wide();
        y.setRule(1, 300);
        y.setRule(0, 10);
        y.addCrew(0);
        for (int leg = 0; leg < 20; leg++) {
            y.addLeg(leg % 2, 1 - leg % 2, 301 * leg, 301 * leg + 1);
            is("ride", y.ride(0, leg), leg);
        }
        is("a duty for each item", y.dutyCount(0), 20);
        is("the last item is in the last duty", y.item(0, 19, 2), 19);
    }

    @Sentence(of = "Promise 17", says = {"Returns a number of a duty.", "- `crew`: the crew",
        "- `what`: 0 for the minutes from the departure of its first item to the arrival of its last item, 1 for the minutes "
        + "flown, 2 for the number of items, 3 for the position of its first item",
        "Returns the number; BAD if there is no such crew or what is out of range;"})
    static void promise17WhatIs0To3() {
        CrewPairer x = fullest();
        for (int duty = 0; duty < 3; duty++) {
            int[] due = {440, 160, 8, 8 * duty};
            for (int what = 0; what < 4; what++) {
                is("duty " + duty + ", what " + what, x.duty(0, duty, what), due[what]);
            }
        }
        for (int wrong : new int[] {-1, 4, LOW, HIGH}) {
            refused("what " + wrong, Begin.SOME, y -> y.duty(0, 0, wrong), BAD);
            refused("what " + wrong + " of no duty", Begin.SOME, y -> y.duty(0, 1, wrong), BAD);
        }
        for (int wrong : new int[] {-1, 3, 6, LOW, HIGH}) {
            refused("crew " + wrong, Begin.SOME, y -> y.duty(wrong, 0, 0), BAD);
        }
    }

    @Sentence(of = "Promise 17", says = {"- `duty`: the number of the duty, from 0", "NONE if there is no such duty."})
    static void promise17DutiesAreThoseOfTheRow() {
        is("the only one", some().duty(0, 0, 0), 60);
        for (int wrong : new int[] {-1, 1, 24, LOW, HIGH}) {
            refused("duty " + wrong, Begin.SOME, x -> x.duty(0, wrong, 0), NONE);
        }
        is("behind the last of 3", fullest().duty(0, 3, 0), NONE);
        is("an empty row", fullest().duty(5, 0, 0), NONE);
    }

    @Sentence(of = "Promise 18", says = {"Returns the number of violations of a row.", "- `crew`: the crew",
        "Returns the number of violations; BAD if there is no such crew."})
    static void promise18ViolationsAre0AndMore() {
        is("an empty row", wronged().violationCount(5), 0);
        is("a row without one", fullest().violationCount(0), 0);
        is("one", some().violationCount(0), 1);
        is("many", wronged().violationCount(0), 32);
        for (int wrong : new int[] {-1, 3, 6, LOW, HIGH}) {
            refused("crew " + wrong, Begin.SOME, x -> x.violationCount(wrong), BAD);
        }
    }

    @Sentence(of = "Promise 19", says = {"Returns a part of a violation.", "- `crew`: the crew",
        "- `what`: 0 for the kind, 1 for the place",
        "Returns the part; BAD if there is no such crew or what is out of range;"})
    static void promise19WhatIs0To1() {
        is("kind", some().violation(0, 0, 0), 2);
        is("place", some().violation(0, 0, 1), 0);
        for (int wrong : new int[] {-1, 2, LOW, HIGH}) {
            refused("what " + wrong, Begin.SOME, x -> x.violation(0, 0, wrong), BAD);
            refused("what " + wrong + " of none", Begin.SOME, x -> x.violation(0, 1, wrong), BAD);
        }
        for (int wrong : new int[] {-1, 3, 6, LOW, HIGH}) {
            refused("crew " + wrong, Begin.SOME, x -> x.violation(wrong, 0, 0), BAD);
        }
    }

    @Sentence(of = "Promise 19", says = {"- `i`: the position in the order of the violations, from 0",
        "NONE if there is no such violation."})
    static void promise19PositionsAreThoseOfTheViolations() {
        for (int wrong : new int[] {-1, 1, LOW, HIGH}) {
            refused("position " + wrong, Begin.SOME, x -> x.violation(0, wrong, 0), NONE);
        }
        CrewPairer x = wronged();
        is("the last of 32, kind", x.violation(0, 31, 0), 7);
        is("the last of 32, place", x.violation(0, 31, 1), 8);
        is("behind the last", x.violation(0, 32, 0), NONE);
        is("a row without one", x.violation(1, 0, 0), NONE);
    }

    @Sentence(of = "Promise 20", says = {"Returns the minutes of a crew.", "- `crew`: the crew",
        "Returns the minutes; BAD if there is no such crew."})
    static void promise20CrewIsOneThatIsThere() {
        is("of the first", some().minutes(0), 60);
        is("of a crew that rides only", some().minutes(1), 0);
        is("of the last", some().minutes(2), 60);
        for (int wrong : new int[] {-1, 3, 6, LOW, HIGH}) {
            refused("crew " + wrong, Begin.SOME, x -> x.minutes(wrong), BAD);
        }
    }

    @Sentence(of = "Promise 21", says = {"Returns the minutes flown within a number of minutes from a start on.",
        "- `crew`: the crew", "- `start`: the start, 0 to 5999", "- `length`: the number of minutes, 1 to 6000",
        "Returns the minutes; BAD if an argument is out of range."})
    static void promise21StartIs0To5999AndLength1To6000() {
        CrewPairer x = shuttle(1);
        x.addLeg(0, 1, 0, 5);
        x.addLeg(1, 0, 5998, 5999);
        x.fly(0, 4);
        x.fly(0, 5);
        is("the first minute", x.within(0, 0, 1), 1);
        is("all minutes", x.within(0, 0, 6000), 6);
        is("the last minute flown", x.within(0, 5998, 1), 1);
        is("the last start", x.within(0, 5999, 1), 0);
        is("the last start and the greatest length", x.within(0, 5999, 6000), 0);
        is("a minute before it", x.within(0, 5998, 6000), 1);
        for (int wrong : new int[] {-1, 6000, LOW, HIGH}) {
            refused("start " + wrong, Begin.SOME, y -> y.within(0, wrong, 1), BAD);
        }
        for (int wrong : new int[] {0, -1, 6001, LOW, HIGH}) {
            refused("length " + wrong, Begin.SOME, y -> y.within(0, 0, wrong), BAD);
            is("length " + wrong + " from the last start", x.within(0, 5999, wrong), BAD);
        }
        for (int wrong : new int[] {-1, 3, 6, LOW, HIGH}) {
            refused("crew " + wrong, Begin.SOME, y -> y.within(wrong, 0, 1), BAD);
        }
    }

    @Sentence(of = "Promise 22", says = {"Returns whether a crew is home.", "- `crew`: the crew",
        "Returns 1 if it is, 0 if not; BAD if there is no such crew."})
    static void promise22CrewIsOneThatIsThere() {
        is("home", some().home(0), 1);
        is("away", some().home(1), 0);
        is("an empty row", fullest().home(5), 1);
        for (int wrong : new int[] {-1, 3, 6, LOW, HIGH}) {
            refused("crew " + wrong, Begin.SOME, x -> x.home(wrong), BAD);
        }
    }

    @Sentence(of = "Promise 23", says = {"Returns the number of pairings of a crew.", "- `crew`: the crew",
        "Returns the number of pairings; BAD if there is no such crew."})
    static void promise23CrewIsOneThatIsThere() {
        is("one, though the row has a violation", some().pairings(0), 1);
        is("none", some().pairings(1), 0);
        is("an empty row", fullest().pairings(5), 0);
        for (int wrong : new int[] {-1, 3, 6, LOW, HIGH}) {
            refused("crew " + wrong, Begin.SOME, x -> x.pairings(wrong), BAD);
        }
    }

    @Sentence(of = "Promise 24", says = {"Returns a cost of a crew.", "- `crew`: the crew, or -1 for the sum over all crews",
        "- `what`: 0 for the deadheads, 1 for the nights, 2 for both",
        "Returns the cost; BAD if there is no such crew or what is out of range."})
    static void promise24CrewIsOneThatIsThereOrAll() {
        CrewPairer x = some();
        x.setRule(1, 300);
        is("crew 0 rides", x.ride(0, 0), 0);
        is("crew 1 rides back after a gap of 300", x.ride(1, 3), 1);
        is("crew 2 rides back, too", x.ride(2, 3), 1);
        int[][] due = {{600, 0, 600}, {1200, 500, 1700}, {600, 0, 600}};
        int[] all = {2400, 500, 2900};
        for (int what = 0; what < 3; what++) {
            for (int crew = 0; crew < 3; crew++) {
                is("of crew " + crew + ", what " + what, x.cost(crew, what), due[crew][what]);
            }
            is("of all, what " + what, x.cost(-1, what), all[what]);
            is("of all in a new pairer, what " + what, new CrewPairer().cost(-1, what), 0);
        }
        for (int wrong : new int[] {-2, 3, 6, LOW, HIGH}) {
            refused("crew " + wrong, Begin.SOME, y -> y.cost(wrong, 2), BAD);
        }
        for (int wrong : new int[] {-1, 3, LOW, HIGH}) {
            refused("what " + wrong, Begin.SOME, y -> y.cost(0, wrong), BAD);
            refused("what " + wrong + " of all", Begin.SOME, y -> y.cost(-1, wrong), BAD);
        }
    }
}
