/** The boundary cases of use, legs, crews and rules: the Description and the promises 1 to 8. */
final class BoundaryLegs extends Refusals {
    private BoundaryLegs() {
    }

    @Sentence(of = "What it is",
            says = "An object is used for at most 512 calls after it has been made; what later calls answer is free.")
    static void whatItIsTheCall512IsAnsweredYet() {
        CrewPairer x = new CrewPairer();
        for (int i = 0; i < 255; i++) {
            is("addCrew", x.addCrew(i % 6), 0);
            is("undo", x.undo(), 0);
        }
        is("call 511", x.addCrew(5), 0);
        is("call 512", x.crewCount(), 1);
        CrewPairer y = new CrewPairer();
        for (int i = 0; i < 503; i++) {
            is("setRule", y.setRule(7, i), i == 0 ? 500 : i - 1);
        }
        for (int i = 7; i >= 0; i--) {
            is("undo after 503 changes", y.undo(), i);
        }
        is("call 512, with 8 of 503 changes undone", y.rule(7), 494);
        CrewPairer z = new CrewPairer();
        for (int i = 0; i < 8; i++) {
            for (int j = 1; j <= 60; j++) {
                is("feed", z.feed('z'), j);
            }
            is("execute", z.execute(), -200);
        }
        for (int i = 489; i < 512; i++) {
            is("addLeg, call " + i, z.addLeg(0, 1, i, i + 1), i - 489);
        }
        is("call 512", z.legCount(), 23);
    }

    @Sentence(of = "Description", says = "Legs. There are 6 airports, numbered from 0.")
    static void descriptionAirportsAre0To5() {
        CrewPairer x = new CrewPairer();
        for (int airport = 0; airport < 6; airport++) {
            is("from " + airport, x.addLeg(airport, (airport + 1) % 6, 10, 20), airport);
            is("base " + airport, x.addCrew(airport), airport);
        }
        for (int airport : new int[] {-1, 6}) {
            is("from " + airport, x.addLeg(airport, 1, 10, 20), BAD);
            is("to " + airport, x.addLeg(1, airport, 10, 20), BAD);
            is("base " + airport, new CrewPairer().addCrew(airport), BAD);
        }
    }

    @Sentence(of = "Description", says = "A leg leads from an airport to another one and has a departure and an arrival, in "
            + "minutes from 0 to 5999; the time between them is its length.")
    static void descriptionALegLeadsToAnotherAirportFrom0To5999() {
        CrewPairer x = new CrewPairer();
        for (int airport = 0; airport < 6; airport++) {
            is("to the same airport " + airport, x.addLeg(airport, airport, 10, 20), BAD);
        }
        is("from 0", x.addLeg(0, 1, 0, 1), 0);
        is("from -1", x.addLeg(0, 1, -1, 1), BAD);
        is("to 5999", x.addLeg(1, 0, 5399, 5999), 1);
        is("to 6000", x.addLeg(1, 0, 5400, 6000), BAD);
        x.addCrew(0);
        x.setRule(3, 720);
        x.fly(0, 0);
        is("the length of 1 minute", x.minutes(0), 1);
        x.fly(0, 1);
        is("and the one of 600 minutes", x.minutes(0), 601);
    }

    @Sentence(of = "Description",
            says = "There are at most 24 legs, numbered from 0 in the order in which they were added.")
    static void descriptionLegsAreAtMost24() {
        CrewPairer x = new CrewPairer();
        for (int leg = 0; leg < 24; leg++) {
            is("leg " + leg + ", which departs before the others", x.addLeg(0, 1, 100 - leg, 200), leg);
        }
        is("one more", x.addLeg(0, 1, 200, 201), FULL);
        is("leg 0 departs last", x.leg(0, 2), 100);
        is("leg 23 departs first", x.leg(23, 2), 77);
        is("leg 24", x.leg(24, 2), BAD);
        is("the first open one", x.open(0), 23);
        is("the last open one", x.open(23), 0);
    }

    @Sentence(of = "Description", says = "A leg can be cancelled.")
    static void descriptionALegCanBeCancelled() {
        CrewPairer x = fullest();
        is("not cancelled", x.leg(23, 4), 0);
        is("the last of 24", x.cancel(23), 1);
        is("cancelled", x.leg(23, 4), 1);
        is("the first of 24", x.cancel(0), 1);
        is("cancelled", x.leg(0, 4), 1);
        for (int leg = 1; leg < 23; leg++) {
            is("not cancelled: leg " + leg, x.leg(leg, 4), 0);
        }
    }

    @Sentence(of = "Description",
            says = "Crews. There are at most 6 crews, numbered from 0, each with a base, which is an airport.")
    static void descriptionCrewsAreAtMost6() {
        CrewPairer x = new CrewPairer();
        for (int crew = 0; crew < 6; crew++) {
            x.addLeg(crew, (crew + 1) % 6, 100, 110);
            is("crew " + crew, x.addCrew(crew), crew);
        }
        is("one more", x.addCrew(0), FULL);
        is("crew 6", x.itemCount(6), BAD);
        for (int crew = 0; crew < 6; crew++) {
            for (int leg = 0; leg < 6; leg++) {
                is("crew " + crew + " begins at its base, leg " + leg, x.reason(crew, leg, true), crew == leg ? 0 : 2);
            }
        }
    }

    @Sentence(of = "Description",
            says = "A crew has a row of items; an item is a leg that it flies or rides on (a deadhead).")
    static void descriptionARowIsEmptyOrHasUpToAllLegs() {
        CrewPairer x = fullest();
        is("no item", x.itemCount(5), 0);
        is("no first item", x.item(5, 0, 0), NONE);
        is("all legs", x.itemCount(0), 24);
        is("the last item", x.item(0, 23, 0), 23);
        is("it is flown", x.item(0, 23, 1), 1);
        is("no item behind it", x.item(0, 24, 0), NONE);
        for (int leg = 0; leg < 24; leg++) {
            is("crew 5 rides on leg " + leg, x.ride(5, leg), leg);
        }
        is("another row of all legs", x.itemCount(5), 24);
        is("the last item", x.item(5, 23, 0), 23);
        is("it is a deadhead", x.item(5, 23, 1), 0);
    }

    @Sentence(of = "Description",
            says = "The items are ordered by departure, those with the same departure by the number of the leg.")
    static void descriptionItemsOfTheSameDepartureAreOrderedByNumber() {
        CrewPairer x = wide();
        x.addCrew(0);
        x.addLeg(1, 0, 300, 310);
        x.addLeg(0, 1, 200, 210);
        x.addLeg(0, 1, 400, 410);
        x.fly(0, 1);
        x.fly(0, 0);
        x.fly(0, 2);
        is("by departure", row(x, 0), "f1 f0 f2");
        x.delay(1, 99);
        is("a minute earlier", row(x, 0), "f1 f0 f2");
        x.delay(1, 1);
        is("the same departure", row(x, 0), "f0 f1 f2");
        x.delay(0, 1);
        is("a minute earlier", row(x, 0), "f1 f0 f2");
        x.delay(0, 99);
        is("the same departure as leg 2", row(x, 0), "f1 f0 f2");
        x.delay(0, 1);
        is("a minute later", row(x, 0), "f1 f2 f0");
    }

    @Sentence(of = "Description",
            says = "A leg is in a row at most once, and at most one crew flies it; then it is covered.")
    static void descriptionALegIsInARowOnceAndFlownOnce() {
        CrewPairer x = shuttle(6);
        x.ride(0, 0);
        is("ridden twice", x.ride(0, 0), -109);
        is("ridden, then flown", x.fly(0, 0), -109);
        is("not covered", x.leg(0, 5), NONE);
        is("flown by another one", x.fly(1, 0), 0);
        is("covered", x.leg(0, 5), 1);
        is("flown, then ridden", x.ride(1, 0), -109);
        for (int crew = 2; crew < 6; crew++) {
            is("flown twice, by crew " + crew, x.fly(crew, 0), -108);
            is("ridden by crew " + crew, x.ride(crew, 0), 0);
        }
        is("one item", x.itemCount(0), 1);
        is("still covered by crew 1", x.leg(0, 5), 1);
        x.drop(1, 0);
        is("not covered any more", x.leg(0, 5), NONE);
        is("dropped, then flown again", x.fly(1, 0), 0);
    }

    @Sentence(of = "Description", says = "A leg that is neither cancelled nor covered is open.")
    static void descriptionALegIsOpenUnlessCancelledOrCovered() {
        CrewPairer x = shuttle(2);
        is("all", open(x), "0 1 2 3");
        x.fly(0, 0);
        x.ride(0, 1);
        x.cancel(3);
        is("neither the covered nor the cancelled one", open(x), "1 2");
        x.cancel(0);
        x.cancel(1);
        x.cancel(2);
        is("none", open(x), "");
    }

    @Sentence(of = "Description", says = "The minutes of a crew are the sum of the lengths of the legs that it flies.")
    static void descriptionMinutesAreOfFlownLegsOnly() {
        CrewPairer x = fullest();
        is("24 legs of 20 minutes", x.minutes(0), 480);
        is("an empty row", x.minutes(1), 0);
        x.ride(1, 0);
        is("a deadhead", x.minutes(1), 0);
        x.cancel(23);
        is("a leg less", x.minutes(0), 460);
    }

    @Sentence(of = "Description", says = "Rules. The rules have these numbers, ranges and initial values: 0 connection 10 "
            + "to 120, 30; 1 rest 300 to 900, 600; 2 duty 300 to 960, 720; 3 flight 120 to 720, 480; 4 legs 1 to 8, 4; "
            + "5 window 120 to 1200, 600; 6 the cost of a minute of a deadhead 0 to 99, 10; 7 the cost of a night 0 to 9999, "
            + "500.")
    static void descriptionRulesHaveRangesAndInitialValues() {
        CrewPairer x = new CrewPairer();
        is("rule -1", x.rule(-1), BAD);
        is("rule 8", x.rule(8), BAD);
        for (int rule = 0; rule < 8; rule++) {
            is("initial value of " + rule, x.rule(rule), RULE_FIRST[rule]);
            is("below the range of " + rule, x.setRule(rule, RULE_LEAST[rule] - 1), BAD);
            is("least value of " + rule, x.setRule(rule, RULE_LEAST[rule]), RULE_FIRST[rule]);
            is("above the range of " + rule, x.setRule(rule, RULE_MOST[rule] + 1), BAD);
            is("greatest value of " + rule, x.setRule(rule, RULE_MOST[rule]), RULE_LEAST[rule]);
            is("the greatest value of " + rule + " is set", x.rule(rule), RULE_MOST[rule]);
        }
    }

    @Sentence(of = "Promise 1", says = "Creates a pairer without legs and crews.")
    static void promise01NothingIsThereYet() {
        CrewPairer x = new CrewPairer();
        is("legCount", x.legCount(), 0);
        is("crewCount", x.crewCount(), 0);
        is("openCount", x.openCount(), 0);
        is("open", x.open(0), NONE);
        is("pair", new CrewPairer().pair(), 0);
        is("repair", new CrewPairer().repair(), 0);
        is("repaired", x.repaired(0, 0), NONE);
        is("cost of all", x.cost(-1, 2), 0);
        is("execute", x.execute(), -200);
        is("restore", x.restore(), NONE);
        is("undo", x.undo(), NONE);
        is("save", x.save(), 0);
        is("leg", x.leg(0, 0), BAD);
        is("itemCount", x.itemCount(0), BAD);
        refused("fly", Begin.EMPTY, y -> y.fly(0, 0), BAD);
        refused("ride", Begin.EMPTY, y -> y.ride(0, 0), BAD);
        refused("drop", Begin.EMPTY, y -> y.drop(0, 0), BAD);
        refused("delay", Begin.EMPTY, y -> y.delay(0, 0), BAD);
        refused("cancel", Begin.EMPTY, y -> y.cancel(0), BAD);
        refused("setReserve", Begin.EMPTY, y -> y.setReserve(0, 0, 0), BAD);
        refused("takeBest", Begin.EMPTY, y -> y.takeBest(0), BAD);
        refused("reason", Begin.EMPTY, y -> y.reason(0, 0, true), BAD);
        refused("place", Begin.EMPTY, y -> y.place(0, 0, false), BAD);
        refused("called", Begin.EMPTY, y -> y.called(0), BAD);
        refused("offer", Begin.EMPTY, y -> y.offer(0, 0), BAD);
        refused("undo", Begin.EMPTY, CrewPairer::undo, NONE);
        refused("restore", Begin.EMPTY, CrewPairer::restore, NONE);
        refused("execute", Begin.EMPTY, CrewPairer::execute, -200);
    }

    @Sentence(of = "Promise 2", says = {"Adds a leg.", "- `from`: the airport from which it leads, 0 to 5"})
    static void promise02FromIs0To5() {
        is("0", new CrewPairer().addLeg(0, 1, 10, 20), 0);
        is("5", new CrewPairer().addLeg(5, 1, 10, 20), 0);
        for (int from : new int[] {-1, 6, LOW, HIGH}) {
            for (Begin begin : Begin.values()) {
                refused("from " + from, begin, x -> x.addLeg(from, 1, 10, 20), BAD);
            }
        }
    }

    @Sentence(of = "Promise 2", says = "- `to`: the airport to which it leads, 0 to 5, not the same")
    static void promise02ToIs0To5NotTheSame() {
        is("0", new CrewPairer().addLeg(1, 0, 10, 20), 0);
        is("5", new CrewPairer().addLeg(1, 5, 10, 20), 0);
        for (int to : new int[] {-1, 6, LOW, HIGH, 1}) {
            refused("to " + to, Begin.EMPTY, x -> x.addLeg(1, to, 10, 20), BAD);
            refused("to " + to, Begin.SOME, x -> x.addLeg(1, to, 10, 20), BAD);
        }
        is("from and to 0", new CrewPairer().addLeg(0, 0, 10, 20), BAD);
        is("from and to 5", new CrewPairer().addLeg(5, 5, 10, 20), BAD);
        is("from and to 6", new CrewPairer().addLeg(6, 6, 10, 20), BAD);
    }

    @Sentence(of = "Promise 2", says = "- `departure`: the departure, 0 to 5999")
    static void promise02DepartureIs0To5999() {
        is("0", new CrewPairer().addLeg(0, 1, 0, 20), 0);
        is("5998", new CrewPairer().addLeg(0, 1, 5998, 5999), 0);
        is("5999, after which no arrival is left", new CrewPairer().addLeg(0, 1, 5999, 6000), BAD);
        is("5999 with an arrival after a wrap-around", new CrewPairer().addLeg(0, 1, 5999, 0), BAD);
        refused("-1", Begin.SOME, x -> x.addLeg(0, 1, -1, 20), BAD);
        refused("6000", Begin.SOME, x -> x.addLeg(0, 1, 6000, 6001), BAD);
        refused("6000 with an arrival that is allowed", Begin.SOME, x -> x.addLeg(0, 1, 6000, 5999), BAD);
        refused("the smallest", Begin.SOME, x -> x.addLeg(0, 1, LOW, 20), BAD);
        refused("the smallest, a minute before the arrival", Begin.SOME, x -> x.addLeg(0, 1, LOW, LOW + 1), BAD);
        refused("the largest", Begin.SOME, x -> x.addLeg(0, 1, HIGH, 20), BAD);
        refused("the largest, a minute before a wrapped arrival", Begin.SOME, x -> x.addLeg(0, 1, HIGH, LOW), BAD);
        refused("the last but one", Begin.SOME, x -> x.addLeg(0, 1, HIGH - 1, HIGH), BAD);
    }

    @Sentence(of = "Promise 2", says = "- `arrival`: the arrival, 1 to 600 minutes later, at most 5999")
    static void promise02ArrivalIs1To600MinutesLater() {
        is("1 minute later", new CrewPairer().addLeg(0, 1, 100, 101), 0);
        is("600 minutes later", new CrewPairer().addLeg(0, 1, 100, 700), 0);
        is("1 minute later, 5999", new CrewPairer().addLeg(0, 1, 5998, 5999), 0);
        is("600 minutes later, 5999", new CrewPairer().addLeg(0, 1, 5399, 5999), 0);
        int[][] wrong = {{100, 100}, {100, 99}, {100, 701}, {5400, 6000}, {5998, 6000}, {0, 601}, {0, 0}, {0, -1},
            {100, LOW}, {100, HIGH}, {0, LOW}, {0, HIGH}, {5998, LOW}, {5998, HIGH}};
        for (int[] times : wrong) {
            refused(times[0] + " to " + times[1], Begin.SOME, x -> x.addLeg(0, 1, times[0], times[1]), BAD);
        }
    }

    @Sentence(of = "Promise 2", says = "Returns the number of the leg; BAD if an argument is not as described;")
    static void promise02NumbersAre0To23() {
        CrewPairer x = new CrewPairer();
        for (int leg = 0; leg < 24; leg++) {
            is("addLeg, refused", x.addLeg(0, 1, leg, leg), BAD);
            is("addLeg", x.addLeg(0, 1, leg, leg + 1), leg);
        }
        x.undo();
        is("the number is free again", x.addLeg(0, 2, 0, 1), 23);
    }

    @Sentence(of = "Promise 2",
            says = "DUPLICATE if there is a leg, cancelled or not, with these airports and this departure;")
    static void promise02ADuplicateHasTheSameAirportsAndDeparture() {
        refused("leg 0, which is open", Begin.SOME, x -> x.addLeg(0, 1, 480, 481), DUPLICATE);
        refused("leg 1, which was moved there", Begin.SOME, x -> x.addLeg(1, 0, 690, 750), DUPLICATE);
        refused("leg 6, which is cancelled", Begin.SOME, x -> x.addLeg(3, 4, 3000, 3100), DUPLICATE);
        is("where leg 1 was before", some().addLeg(1, 0, 600, 660), 7);
        is("a minute earlier", some().addLeg(0, 1, 479, 480), 7);
        is("a minute later", some().addLeg(0, 1, 481, 540), 7);
        is("the other way", some().addLeg(1, 0, 480, 540), 7);
        is("to another airport", some().addLeg(0, 5, 480, 540), 7);
        is("from another airport", some().addLeg(5, 1, 480, 540), 7);
        CrewPairer x = new CrewPairer();
        x.addLeg(0, 1, 5, 6);
        x.undo();
        is("a leg that was undone", x.addLeg(0, 1, 5, 6), 0);
    }

    @Sentence(of = "Promise 2", says = "FULL if there are 24 legs.")
    static void promise02With24LegsItIsFull() {
        refused("a 25th leg", Begin.FULLEST, x -> x.addLeg(4, 5, 5000, 5001), FULL);
        refused("DUPLICATE is mentioned before FULL", Begin.FULLEST, x -> x.addLeg(0, 1, 0, 5), DUPLICATE);
        refused("BAD is mentioned before DUPLICATE", Begin.FULLEST, x -> x.addLeg(0, 1, 0, 601), BAD);
        refused("BAD is mentioned before FULL", Begin.FULLEST, x -> x.addLeg(0, 1, 5999, 6000), BAD);
        CrewPairer x = fullest();
        x.cancel(0);
        is("cancelled legs take room, too", x.addLeg(4, 5, 5000, 5001), FULL);
    }

    @Sentence(of = "Promise 3", says = {"Adds a crew with an empty row.", "- `base`: the base, 0 to 5",
        "Returns the number of the crew; BAD if base is out of range;"})
    static void promise03BaseIs0To5() {
        CrewPairer x = new CrewPairer();
        is("0", x.addCrew(0), 0);
        is("5", x.addCrew(5), 1);
        is("the row is empty", x.itemCount(0) + x.itemCount(1), 0);
        for (int base : new int[] {-1, 6, LOW, HIGH}) {
            for (Begin begin : Begin.values()) {
                refused("base " + base, begin, y -> y.addCrew(base), BAD);
            }
        }
        CrewPairer z = shuttle(1);
        z.fly(0, 0);
        z.setReserve(0, 0, 6000);
        z.undo();
        z.undo();
        z.undo();
        is("a crew after one was undone", z.addCrew(0), 0);
        is("has an empty row", z.itemCount(0), 0);
        is("and is no reserve", z.reserve(0, 0), NONE);
    }

    @Sentence(of = "Promise 3", says = "FULL if there are 6 crews.")
    static void promise03With6CrewsItIsFull() {
        CrewPairer x = new CrewPairer();
        for (int crew = 0; crew < 6; crew++) {
            is("addCrew", x.addCrew(3), crew);
        }
        is("a 7th crew", x.addCrew(3), FULL);
        is("crews", x.crewCount(), 6);
        x.undo();
        is("room again", x.addCrew(3), 5);
        refused("a 7th crew", Begin.FULLEST, y -> y.addCrew(0), FULL);
        refused("BAD is mentioned before FULL", Begin.FULLEST, y -> y.addCrew(6), BAD);
    }

    @Sentence(of = "Promise 4", says = {"Returns the number of legs, cancelled ones included.", "Returns the number of legs."})
    static void promise04LegCountIs0To24() {
        CrewPairer x = new CrewPairer();
        is("none", x.legCount(), 0);
        for (int leg = 0; leg < 24; leg++) {
            x.addLeg(0, 1, leg, 100);
            is("legs", x.legCount(), leg + 1);
        }
        x.addLeg(0, 1, 50, 100);
        is("a refused one does not count", x.legCount(), 24);
        for (int leg = 0; leg < 24; leg++) {
            x.cancel(leg);
        }
        is("all are cancelled", x.legCount(), 24);
    }

    @Sentence(of = "Promise 5", says = "Returns the number of crews.")
    static void promise05CrewCountIs0To6() {
        CrewPairer x = new CrewPairer();
        is("none", x.crewCount(), 0);
        for (int crew = 0; crew < 6; crew++) {
            x.addCrew(crew);
            is("crews", x.crewCount(), crew + 1);
        }
        x.addCrew(0);
        is("a refused one does not count", x.crewCount(), 6);
    }

    @Sentence(of = "Promise 6", says = {"Returns a number of a leg.", "- `leg`: the number of the leg",
        "Returns the number; BAD if there is no such leg"})
    static void promise06LegIsOneThatIsThere() {
        CrewPairer x = some();
        is("the first", x.leg(0, 2), 480);
        is("the last", x.leg(6, 2), 3000);
        is("the 24th", fullest().leg(23, 2), 60 * 23 + 800);
        is("none yet", new CrewPairer().leg(0, 0), BAD);
        for (int wrong : new int[] {-1, 7, 23, 24, LOW, HIGH}) {
            refused("leg " + wrong, Begin.SOME, y -> y.leg(wrong, 0), BAD);
        }
        is("the 25th", fullest().leg(24, 0), BAD);
    }

    @Sentence(of = "Promise 6", says = {"- `what`: 0 for the airport from which it leads, 1 for the one to which it leads, 2 "
            + "for the departure, 3 for the arrival, 4 for 1 if it is cancelled and 0 if not, 5 for the crew that flies it, "
            + "NONE if it is not covered", "or what is out of range."})
    static void promise06WhatIs0To5() {
        CrewPairer x = some();
        int[][] due = {{0, 1, 480, 540, 0, NONE}, {1, 0, 690, 750, 0, 0}, {0, 1, 720, 780, 0, 2}, {1, 0, 840, 900, 0, NONE},
            {0, 2, 2000, 2100, 0, NONE}, {2, 0, 2200, 2300, 0, NONE}, {3, 4, 3000, 3100, 1, NONE}};
        for (int leg = 0; leg < 7; leg++) {
            for (int what = 0; what < 6; what++) {
                is("leg " + leg + ", what " + what, x.leg(leg, what), due[leg][what]);
            }
        }
        for (int wrong : new int[] {-1, 6, LOW, HIGH}) {
            refused("what " + wrong, Begin.SOME, y -> y.leg(0, wrong), BAD);
            is("no such leg and what " + wrong, x.leg(7, wrong), BAD);
        }
    }

    @Sentence(of = "Promise 7", says = {"Sets a rule.", "- `rule`: the number of the rule",
        "Returns the previous value; BAD if there is no such rule"})
    static void promise07RuleIs0To7() {
        CrewPairer x = new CrewPairer();
        is("0", x.setRule(0, 11), 30);
        is("0 again", x.setRule(0, 12), 11);
        is("7", x.setRule(7, 9), 500);
        is("7 again", x.setRule(7, 9), 9);
        for (int wrong : new int[] {-1, 8, LOW, HIGH}) {
            for (Begin begin : Begin.values()) {
                refused("rule " + wrong, begin, y -> y.setRule(wrong, 300), BAD);
            }
        }
    }

    @Sentence(of = "Promise 7", says = {"- `value`: the value", "or value is out of its range."})
    static void promise07ValueIsInTheRangeOfTheRule() {
        for (int rule = 0; rule < 8; rule++) {
            int number = rule;
            is("least of " + rule, new CrewPairer().setRule(rule, RULE_LEAST[rule]), RULE_FIRST[rule]);
            is("greatest of " + rule, new CrewPairer().setRule(rule, RULE_MOST[rule]), RULE_FIRST[rule]);
            for (int wrong : new int[] {RULE_LEAST[rule] - 1, RULE_MOST[rule] + 1, LOW, HIGH}) {
                refused("rule " + rule + " value " + wrong, Begin.SOME, x -> x.setRule(number, wrong), BAD);
            }
        }
    }

    @Sentence(of = "Promise 8", says = {"Returns a rule.", "- `rule`: the number of the rule",
        "Returns the value; BAD if there is no such rule."})
    static void promise08RuleIs0To7() {
        CrewPairer x = some();
        is("0", x.rule(0), 45);
        is("7", x.rule(7), 500);
        for (int wrong : new int[] {-1, 8, LOW, HIGH}) {
            refused("rule " + wrong, Begin.SOME, y -> y.rule(wrong), BAD);
        }
    }
}
