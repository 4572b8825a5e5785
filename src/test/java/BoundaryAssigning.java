/** The boundary cases of assigning and of automatic pairing: the promises 9 to 13, 32 and 33. */
final class BoundaryAssigning extends Refusals {
    private BoundaryAssigning() {
    }

    /**
     * Row 0 is "f0" and row 1 "f8"; rules under which one item of an hour is all that is allowed. Crew 0 cannot fly
     * the legs 1 to 10 for the reasons 1 to 10, but that leg 9 is cancelled, too, so leg 0 stands for the reason 9.
     */
    private static CrewPairer tight() {
        CrewPairer x = new CrewPairer();
        x.addCrew(0);
        x.addCrew(0);
        x.setRule(2, 600);
        x.setRule(3, 120);
        x.setRule(4, 1);
        x.setRule(5, 120);
        x.addLeg(0, 1, 100, 160);
        x.addLeg(1, 0, 159, 219);
        x.addLeg(2, 0, 300, 310);
        x.addLeg(1, 0, 189, 240);
        x.addLeg(1, 0, 641, 701);
        x.addLeg(1, 0, 200, 261);
        x.addLeg(1, 0, 210, 220);
        x.addLeg(1, 0, 760, 821);
        x.addLeg(0, 2, 100, 130);
        x.addLeg(0, 3, 40, 45);
        x.addLeg(0, 3, 50, 60);
        x.fly(0, 0);
        x.fly(1, 8);
        x.cancel(9);
        x.cancel(10);
        return x;
    }

    /** The leg that crew 0 cannot fly for this reason. */
    private static int leg(int reason) {
        return reason == 9 ? 0 : reason;
    }

    /**
     * Leg 2, from 2, can be flown after riding on leg 0 or 1 to 2, the latter a minute shorter. Crew 0 has flown 30
     * minutes, crew 1 as many as its two legs take.
     */
    private static CrewPairer offers(int there, int back) {
        CrewPairer x = wide();
        x.addCrew(0);
        x.addCrew(0);
        x.addLeg(0, 2, 100, 160);
        x.addLeg(0, 2, 101, 160);
        x.addLeg(2, 3, 300, 360);
        x.addLeg(0, 1, 0, 20);
        x.addLeg(1, 0, 50, 60);
        x.addLeg(0, 1, 1, 1 + there);
        x.addLeg(1, 0, 51, 51 + back);
        x.fly(0, 3);
        x.fly(0, 4);
        x.fly(1, 5);
        x.fly(1, 6);
        is("minutes of crew 0", x.minutes(0), 30);
        is("minutes of crew 1", x.minutes(1), there + back);
        return x;
    }

    @Sentence(of = "Description", says = {"Assigning. A crew can take a leg, by flying or riding, if none of these reasons "
            + "applies: 10, the leg is cancelled; 9, it is in the row of the crew; 8, it is to be flown and is covered;",
        "The reason is the first one that applies, in this order."})
    static void descriptionReasonsComeInTheirOrder() {
        CrewPairer x = shuttle(3);
        is("no reason", x.reason(0, 0, true), 0);
        x.ride(1, 0);
        is("ridden by another crew", x.reason(0, 0, true), 0);
        x.fly(2, 0);
        is("to be flown and covered", x.reason(0, 0, true), 8);
        is("to be ridden and covered", x.reason(0, 0, false), 0);
        is("in the row and covered by another crew", x.reason(1, 0, true), 9);
        is("in the row and covered by it", x.reason(2, 0, true), 9);
        is("to be ridden, in the row", x.reason(2, 0, false), 9);
        x.fly(2, 1);
        is("covered, and it would be a violation", x.reason(0, 1, true), 8);
        is("a violation", x.reason(0, 1, false), 2);
        x.cancel(0);
        for (int crew = 0; crew < 3; crew++) {
            is("cancelled", x.reason(crew, 0, true), 10);
            is("cancelled, to be ridden", x.reason(crew, 0, false), 10);
        }
        x.cancel(2);
        is("cancelled, and it would be a violation", x.reason(2, 2, true), 10);
    }

    @Sentence(of = "Description", says = "otherwise the kind of the first violation that the row with the leg would have, also "
            + "if the row has it without the leg.")
    static void descriptionReasonsAreTheFirstViolationOfTheRowWithTheLeg() {
        for (int reason = 1; reason <= 7; reason++) {
            is("of kind " + reason, tight().reason(0, reason, true), reason);
        }
        CrewPairer x = some();
        is("the row has it without the leg", x.violation(0, 0, 0), 2);
        is("and with the leg", x.reason(0, 4, true), 2);
        is("at place 0", x.place(0, 4, true), 0);
        is("leg 0 takes it away", x.reason(0, 0, true), 0);
        is("also as a deadhead", x.reason(0, 0, false), 0);
        is("a kind before it is the reason, though at a later place", x.reason(0, 2, false), 1);
        is("at place 1", x.place(0, 2, false), 1);
    }

    @Sentence(of = "Description",
            says = "Pairing. Automatic pairing goes through the open legs by departure, then by number.")
    static void descriptionPairingGoesByDepartureThenNumber() {
        for (int departure = 99; departure <= 101; departure++) {
            CrewPairer x = new CrewPairer();
            x.addCrew(0);
            x.addLeg(0, 1, departure, 160);
            x.addLeg(0, 2, 100, 160);
            is("one of two legs", x.pair(), 1);
            is("the earlier one, or the one with the lower number", row(x, 0), departure <= 100 ? "f0" : "f1");
        }
        CrewPairer y = some();
        is("four open legs", y.pair(), 4);
        is("crew 0", row(y, 0), "f0 f1");
        is("crew 1", row(y, 1), "r0 f3 f4 f5");
        is("crew 2", row(y, 2), "f2");
    }

    @Sentence(of = "Description", says = {"For each, the offers are these: a crew that is no reserve and can fly the leg, with "
            + "the price 0;", "and a crew that is no reserve and could fly the leg after riding on another leg, open or covered, "
            + "which departs before it and on which the crew can ride, also if it can fly the leg without that, with the cost "
            + "of this deadhead as the price."})
    static void descriptionOffersAreWithoutAndWithOneDeadhead() {
        CrewPairer x = new CrewPairer();
        x.addCrew(0);
        x.addCrew(0);
        x.addLeg(0, 1, 100, 160);
        x.addLeg(1, 2, 190, 250);
        x.addLeg(2, 3, 280, 340);
        is("without one", offer(x, 0), "0 -2 0");
        is("with one, behind a gap of 30", offer(x, 1), "0 0 600");
        is("with two", offer(x, 2), "-2 -2 -2");
        x.delay(0, 1);
        is("behind a gap of 29", offer(x, 1), "-2 -2 -2");
        x.delay(0, 29);
        is("it departs before, but arrives at the departure", offer(x, 1), "-2 -2 -2");
        x.delay(0, 60);
        is("it departs at the same time", offer(x, 1), "-2 -2 -2");
        x.delay(0, -90);
        x.fly(0, 0);
        is("the crew that flies it", offer(x, 1), "0 -2 0");
        x.setReserve(0, 0, 6000);
        is("it is a reserve, and the other crew rides on the covered leg", offer(x, 1), "1 0 600");
        x.setReserve(1, 0, 1);
        is("both are reserves", offer(x, 1), "-2 -2 -2");
        x.setReserve(1, 1, 1);
        is("one is none any more", offer(x, 1), "1 0 600");
        x.cancel(0);
        is("a cancelled leg to ride on", offer(x, 1), "-2 -2 -2");
        CrewPairer y = new CrewPairer();
        y.addCrew(0);
        y.setRule(4, 1);
        y.addLeg(0, 1, 0, 60);
        y.addLeg(1, 2, 100, 160);
        is("two items are too many for the duty", offer(y, 1), "-2 -2 -2");
        y.setRule(4, 2);
        is("two are not", offer(y, 1), "0 0 600");
        CrewPairer z = new CrewPairer();
        z.addCrew(0);
        z.setRule(2, 300);
        z.addLeg(0, 1, 0, 301);
        z.addLeg(1, 2, 950, 1000);
        is("a leg on which the crew cannot ride", offer(z, 1), "-2 -2 -2");
        z.setRule(2, 301);
        is("a leg on which it can", offer(z, 1), "0 0 3010");
    }

    @Sentence(of = "Description", says = {"The best offer has the least price; then the least minutes of the crew without this "
            + "leg; then the lowest crew; then no other leg, or else the lowest one.",
        "If there is an offer, the best one is taken."})
    static void descriptionBestOfferIsTheCheapestThenLeastMinutesThenLowest() {
        is("crew 1 has a minute less", offer(offers(19, 10), 2), "1 1 590");
        is("both have the same minutes", offer(offers(20, 10), 2), "0 1 590");
        is("crew 1 has a minute more", offer(offers(20, 11), 2), "0 1 590");
        CrewPairer x = offers(19, 10);
        x.setRule(6, 0);
        is("of equal prices the least minutes, then the lowest leg", offer(x, 2), "1 0 0");
        x.cancel(0);
        is("there is no lower one", offer(x, 2), "1 1 0");
        is("pair covers leg 1, too, and first", x.pair(), 2);
        is("crew 1 has less minutes then", row(x, 1), "f5 f6 f1");
        is("and more than crew 0 now, which rides", row(x, 0), "f3 f4 r1 f2");
        CrewPairer y = offers(20, 10);
        y.addCrew(2);
        is("price 0 before the least minutes and the lowest crew", offer(y, 2), "2 -2 0");
        y.setRule(6, 0);
        is("of equal prices the least minutes", offer(y, 2), "2 -2 0");
        CrewPairer z = new CrewPairer();
        z.setRule(6, 0);
        z.addCrew(0);
        z.addCrew(2);
        z.addLeg(0, 2, 100, 160);
        z.addLeg(2, 3, 300, 360);
        is("of equal prices and minutes the lowest crew, though it has to ride", offer(z, 1), "0 0 0");
        z.setRule(6, 1);
        is("at the least price above 0 the other one", offer(z, 1), "1 -2 0");
        CrewPairer w = new CrewPairer();
        is("no offer without crews", w.pair(), 0);
        w.addLeg(0, 1, 0, 1);
        is("no offer without crews", w.pair(), 0);
        w.addCrew(1);
        is("no offer of a crew elsewhere", w.pair(), 0);
        is("nothing is taken", w.itemCount(0), 0);
    }

    @Sentence(of = "Promise 9", says = {"Lets a crew fly a leg.", "- `crew`: the crew", "- `leg`: the number of the leg",
        "Returns the position of the leg in the row;"})
    static void promise09PositionsAreFromFirstToLast() {
        CrewPairer x = fullest();
        for (int leg : new int[] {0, 1, 11, 22, 23}) {
            is("23 items remain", x.drop(0, leg), 23);
            is("the position of leg " + leg, x.fly(0, leg), leg);
        }
        is("before a row", some().fly(0, 0), 0);
        is("behind a row", some().fly(1, 3), 1);
        is("into an empty row", shuttle(1).fly(0, 2), 0);
    }

    @Sentence(of = "Promise 9", says = "BAD if there is no such crew or leg;")
    static void promise09CrewAndLegAreThere() {
        for (int wrong : new int[] {-1, 3, 6, LOW, HIGH}) {
            refused("crew " + wrong, Begin.SOME, x -> x.fly(wrong, 0), BAD);
            is("crew " + wrong + ", a cancelled leg", some().fly(wrong, 6), BAD);
        }
        for (int wrong : new int[] {-1, 7, 24, LOW, HIGH}) {
            refused("leg " + wrong, Begin.SOME, x -> x.fly(0, wrong), BAD);
            is("no crew and leg " + wrong, some().fly(3, wrong), BAD);
        }
        is("crew 6 of 6", fullest().fly(6, 0), BAD);
        is("leg 24 of 24", fullest().fly(0, 24), BAD);
    }

    @Sentence(of = "Promise 9", says = "-100 minus the reason if the crew cannot fly the leg.")
    static void promise09ReasonsAre1To10() {
        for (int reason = 1; reason <= 10; reason++) {
            int leg = leg(reason);
            refused("reason " + reason, BoundaryAssigning::tight, x -> x.fly(0, leg), -100 - reason);
        }
        refused("covered", Begin.SOME, x -> x.fly(1, 1), -108);
        refused("in the row", Begin.SOME, x -> x.fly(1, 0), -109);
        refused("cancelled", Begin.SOME, x -> x.fly(2, 6), -110);
        refused("covered", Begin.FULLEST, x -> x.fly(5, 23), -108);
        refused("in the row", Begin.FULLEST, x -> x.fly(0, 23), -109);
    }

    @Sentence(of = "Promise 10", says = {"Lets a crew ride on a leg.", "- `crew`: the crew", "- `leg`: the number of the leg",
        "Returns the position of the leg in the row;"})
    static void promise10PositionsAreFromFirstToLast() {
        CrewPairer x = fullest();
        for (int leg : new int[] {0, 1, 11, 22, 23}) {
            is("23 items remain", x.drop(0, leg), 23);
            is("the position of leg " + leg, x.ride(0, leg), leg);
        }
        is("before a row", some().ride(0, 0), 0);
        is("behind a row", some().ride(1, 3), 1);
        is("into an empty row", shuttle(1).ride(0, 2), 0);
    }

    @Sentence(of = "Promise 10", says = "BAD if there is no such crew or leg;")
    static void promise10CrewAndLegAreThere() {
        for (int wrong : new int[] {-1, 3, 6, LOW, HIGH}) {
            refused("crew " + wrong, Begin.SOME, x -> x.ride(wrong, 0), BAD);
            is("crew " + wrong + ", a cancelled leg", some().ride(wrong, 6), BAD);
        }
        for (int wrong : new int[] {-1, 7, 24, LOW, HIGH}) {
            refused("leg " + wrong, Begin.SOME, x -> x.ride(0, wrong), BAD);
            is("no crew and leg " + wrong, some().ride(3, wrong), BAD);
        }
        is("crew 6 of 6", fullest().ride(6, 0), BAD);
        is("leg 24 of 24", fullest().ride(0, 24), BAD);
    }

    @Sentence(of = "Promise 10", says = "-100 minus the reason if the crew cannot ride on the leg.")
    static void promise10ReasonsAre1To10But5And8() {
        for (int reason = 1; reason <= 10; reason++) {
            int leg = leg(reason);
            if (reason != 5 && reason != 7 && reason != 8) {
                refused("reason " + reason, BoundaryAssigning::tight, x -> x.ride(0, leg), -100 - reason);
            }
        }
        is("what is too long to be flown is one item too many to ride on", tight().ride(0, 5), -106);
        is("a window that is full lets the crew ride", tight().ride(0, 7), 1);
        is("so does a covered leg, but that leg departs too early", tight().ride(0, 8), -101);
        is("a covered leg", some().ride(1, 1), 1);
        refused("in the row", Begin.SOME, x -> x.ride(1, 0), -109);
        refused("cancelled", Begin.SOME, x -> x.ride(2, 6), -110);
        CrewPairer x = wide();
        x.addCrew(0);
        x.addLeg(0, 1, 0, 120);
        x.addLeg(1, 0, 400, 500);
        x.addLeg(0, 1, 2000, 2100);
        x.fly(0, 0);
        x.fly(0, 1);
        x.setRule(5, 120);
        is("a row with a violation of the kind 7", violations(x, 0), "7@0");
        is("cannot be ridden on in either", x.ride(0, 2), -107);
        x.setRule(3, 120);
        is("nor one with a violation of the kind 5", x.ride(0, 2), -105);
    }

    @Sentence(of = "Promise 11", says = {"Removes a leg from a row, also if this leads to violations.", "- `crew`: the crew",
        "- `leg`: the number of the leg", "Returns the number of items that remain; BAD if there is no such crew or leg;"})
    static void promise11ItemsRemain23To0() {
        CrewPairer x = fullest();
        for (int leg = 0; leg < 24; leg++) {
            is("drop", x.drop(0, leg), 23 - leg);
            is("violations", x.violationCount(0), leg < 23 && leg % 2 == 0 ? 1 : 0);
        }
        for (int wrong : new int[] {-1, 3, 6, LOW, HIGH}) {
            refused("crew " + wrong, Begin.SOME, y -> y.drop(wrong, 0), BAD);
        }
        for (int wrong : new int[] {-1, 7, 24, LOW, HIGH}) {
            refused("leg " + wrong, Begin.SOME, y -> y.drop(0, wrong), BAD);
        }
        is("crew 6 of 6", fullest().drop(6, 0), BAD);
        is("leg 24 of 24", fullest().drop(0, 24), BAD);
    }

    @Sentence(of = "Promise 11", says = "NONE if the leg is not in the row.")
    static void promise11ALegThatIsNotInTheRow() {
        refused("an open leg", Begin.SOME, x -> x.drop(0, 0), NONE);
        refused("a leg of another crew", Begin.SOME, x -> x.drop(0, 2), NONE);
        refused("a cancelled leg", Begin.SOME, x -> x.drop(0, 6), NONE);
        refused("an empty row", Begin.FULLEST, x -> x.drop(5, 23), NONE);
        CrewPairer x = some();
        is("the only item", x.drop(0, 1), 0);
        is("again", x.drop(0, 1), NONE);
    }

    @Sentence(of = "Promise 12", says = {"Returns the reason why a crew cannot take a leg.", "- `crew`: the crew",
        "- `leg`: the number of the leg", "- `flies`: whether it is to fly the leg, otherwise to ride on it",
        "Returns the reason, 0 if it can take the leg; BAD if there is no such crew or leg."})
    static void promise12ReasonsAre0To10() {
        int[] rides = {9, 1, 2, 3, 4, 6, 6, 0, 1, 10, 10};
        for (int leg = 0; leg <= 10; leg++) {
            int reason = leg == 0 ? 9 : leg == 9 ? 10 : leg;
            is("leg " + leg + " to be flown", tight().reason(0, leg, true), reason);
            is("leg " + leg + " to be ridden", tight().reason(0, leg, false), rides[leg]);
        }
        is("none", shuttle(1).reason(0, 0, true), 0);
        is("none", shuttle(1).reason(0, 0, false), 0);
        asked("none, at the first place", Begin.SOME, x -> x.reason(0, 0, true), 0);
        asked("none, at the last place", Begin.SOME, x -> x.reason(1, 3, false), 0);
        for (int wrong : new int[] {-1, 3, 6, LOW, HIGH}) {
            refused("crew " + wrong, Begin.SOME, x -> x.reason(wrong, 0, true), BAD);
            is("crew " + wrong + " to ride", some().reason(wrong, 0, false), BAD);
        }
        for (int wrong : new int[] {-1, 7, 24, LOW, HIGH}) {
            refused("leg " + wrong, Begin.SOME, x -> x.reason(0, wrong, false), BAD);
            is("leg " + wrong + " to be flown", some().reason(0, wrong, true), BAD);
        }
    }

    @Sentence(of = "Promise 13", says = {"Returns the place of the violation that is the reason why a crew cannot take a leg.",
        "- `crew`: the crew", "- `leg`: the number of the leg", "- `flies`: whether it is to fly the leg, otherwise to ride on it",
        "Returns the position in the row with the leg; BAD if there is no such crew or leg;"})
    static void promise13PlacesAreThoseOfTheRowWithTheLeg() {
        int[] flown = {NONE, 1, 1, 1, 0, 0, 0, 0, NONE, NONE, NONE};
        int[] ridden = {NONE, 1, 1, 1, 0, 0, 0, NONE, 1, NONE, NONE};
        for (int leg = 0; leg <= 10; leg++) {
            is("leg " + leg + " to be flown", tight().place(0, leg, true), flown[leg]);
            is("leg " + leg + " to be ridden", tight().place(0, leg, false), ridden[leg]);
        }
        CrewPairer x = fullest();
        x.cancel(23);
        x.drop(0, 22);
        x.delay(22, -10);
        is("behind 22 items and a gap of 30", x.place(0, 22, true), NONE);
        x.delay(22, -1);
        is("behind 22 items and a gap of 29", x.place(0, 22, true), 22);
        is("by the connection", x.reason(0, 22, true), 3);
        for (int wrong : new int[] {-1, 3, 6, LOW, HIGH}) {
            refused("crew " + wrong, Begin.SOME, y -> y.place(wrong, 0, true), BAD);
        }
        for (int wrong : new int[] {-1, 7, 24, LOW, HIGH}) {
            refused("leg " + wrong, Begin.SOME, y -> y.place(0, wrong, false), BAD);
        }
    }

    @Sentence(of = "Promise 13", says = "NONE if the reason is not from 1 to 7.")
    static void promise13NoPlaceForReasons0And8To10() {
        refused("reason 0", Begin.SOME, x -> x.place(0, 0, true), NONE);
        refused("reason 8", Begin.SOME, x -> x.place(1, 1, true), NONE);
        refused("reason 9", Begin.SOME, x -> x.place(0, 1, true), NONE);
        refused("reason 10", Begin.SOME, x -> x.place(0, 6, true), NONE);
        is("reason 7", tight().place(0, 7, true), 0);
        is("reason 1", tight().place(0, 1, true), 1);
    }

    @Sentence(of = "Promise 32", says = {"Pairs automatically.", "Returns the number of legs that were covered by this."})
    static void promise32LegsAre0To24() {
        is("nothing there yet", new CrewPairer().pair(), 0);
        is("no crew", shuttle(0).pair(), 0);
        is("all are covered", fullest().pair(), 0);
        CrewPairer x = wide();
        x.setRule(1, 300);
        x.addCrew(0);
        for (int leg = 0; leg < 24; leg++) {
            int departure = 60 * leg + 400 * (leg / 8);
            x.addLeg(leg % 2, 1 - leg % 2, departure, departure + 20);
        }
        is("24 legs", x.pair(), 24);
        is("of one crew", x.itemCount(0), 24);
        is("again", x.pair(), 0);
        CrewPairer y = shuttle(1);
        y.cancel(0);
        y.cancel(2);
        is("the other ones depart elsewhere", y.pair(), 0);
        CrewPairer z = new CrewPairer();
        z.addCrew(0);
        z.setRule(3, 120);
        z.addLeg(0, 1, 100, 300);
        z.addLeg(1, 0, 400, 460);
        is("a deadhead does not count", z.pair(), 1);
        is("but is there", row(z, 0), "r0 f1");
    }

    @Sentence(of = "Promise 33", says = {"Returns a part of the best offer for a leg.", "- `leg`: the number of the leg",
        "- `what`: 0 for the crew, 1 for the other leg, NONE if there is none, 2 for the price",
        "Returns the part; BAD if there is no such leg or what is out of range;"})
    static void promise33WhatIs0To2() {
        String[] due = {"0 -2 0", "-2 -2 -2", "-2 -2 -2", "1 -2 0", "1 1 600", "-2 -2 -2", "-2 -2 -2"};
        CrewPairer x = some();
        for (int leg = 0; leg < 7; leg++) {
            is("for leg " + leg, offer(x, leg), due[leg]);
        }
        for (int wrong : new int[] {-1, 3, LOW, HIGH}) {
            refused("what " + wrong, Begin.SOME, y -> y.offer(0, wrong), BAD);
            is("what " + wrong + " for a covered leg", some().offer(1, wrong), BAD);
            is("what " + wrong + " for no leg", some().offer(7, wrong), BAD);
        }
        for (int wrong : new int[] {-1, 7, 24, LOW, HIGH}) {
            refused("leg " + wrong, Begin.SOME, y -> y.offer(wrong, 0), BAD);
        }
        is("leg 24 of 24", fullest().offer(24, 0), BAD);
    }

    @Sentence(of = "Promise 33", says = "NONE if the leg is not open or there is no offer.")
    static void promise33NoneForLegsThatAreNotOpen() {
        for (int what = 0; what < 3; what++) {
            int part = what;
            refused("covered, what " + what, Begin.SOME, x -> x.offer(1, part), NONE);
            refused("cancelled, what " + what, Begin.SOME, x -> x.offer(6, part), NONE);
            refused("no offer, what " + what, Begin.SOME, x -> x.offer(5, part), NONE);
            is("no crews, what " + what, shuttle(0).offer(0, what), NONE);
        }
    }
}
