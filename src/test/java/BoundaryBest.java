/** The boundary cases of best pairings: the promises 36 to 38. */
final class BoundaryBest extends Refusals {
    private BoundaryBest() {
    }

    /** Legs of 20 minutes with 40 minutes between them, from 0 to 1 and back; a crew at 0. */
    private static CrewPairer chain(int legs) {
        CrewPairer x = wide();
        x.addCrew(0);
        for (int leg = 0; leg < legs; leg++) {
            x.addLeg(leg % 2, 1 - leg % 2, 60 * leg, 60 * leg + 20);
        }
        return x;
    }

    /** Behind its row the crew can fly home by leg 3 in as many minutes as given, or by the legs 1 and 2 in 60. */
    private static CrewPairer ways(int minutes) {
        CrewPairer x = wide();
        x.addCrew(0);
        x.addLeg(0, 1, 100, 160);
        x.addLeg(1, 2, 200, 230);
        x.addLeg(2, 0, 300, 330);
        x.addLeg(1, 0, 200, 200 + minutes);
        x.ride(0, 0);
        return x;
    }

    @Sentence(of = "Description", says = {"Best pairings. A best pairing of a crew, also of a reserve, is a sequence of at most 6 "
            + "open legs", "It has at least one leg."})
    static void descriptionABestPairingHas1To6Legs() {
        String[] due = {"-2", "-2", "40 0 1", "40 0 1", "80 0 1 2 3", "80 0 1 2 3", "120 0 1 2 3 4 5", "120 0 1 2 3 4 5",
            "120 0 1 2 3 4 5"};
        for (int legs = 0; legs < 9; legs++) {
            CrewPairer x = chain(legs);
            is("of " + legs + " legs", best(x, 0), due[legs]);
            x.setReserve(0, 0, 1);
            is("of " + legs + " legs, for a reserve", best(x, 0), due[legs]);
        }
        CrewPairer x = chain(8);
        x.fly(0, 0);
        is("an odd number leads home from 1", best(x, 0), "100 1 2 3 4 5");
        for (int leg = 1; leg < 7; leg++) {
            x.fly(0, leg);
        }
        is("one leg", best(x, 0), "20 7");
        x.fly(0, 7);
        is("the crew is home, but a best pairing has one leg at least", best(x, 0), "-2");
        CrewPairer y = new CrewPairer();
        y.addCrew(0);
        y.setRule(4, 8);
        for (int leg = 0; leg < 6; leg++) {
            y.addLeg(leg, (leg + 1) % 6, 60 * leg, 60 * leg + 20);
        }
        is("it takes 6 legs to come home", best(y, 0), "120 0 1 2 3 4 5");
        y.setRule(4, 5);
        is("5 in a duty are too few", best(y, 0), "-2");
        CrewPairer z = chain(8);
        z.cancel(0);
        z.addCrew(0);
        z.fly(1, 2);
        z.fly(1, 3);
        is("neither cancelled nor covered ones", best(z, 0), "80 4 5 6 7");
        z.drop(1, 2);
        z.drop(1, 3);
        z.ride(1, 2);
        is("but ones on which another crew rides", best(z, 0), "120 2 3 4 5 6 7");
    }

    @Sentence(of = "Description", says = "which, flown behind all items of its row, each one departing later than the item before "
            + "it, lead to a row without violations after which the crew is home;")
    static void descriptionABestPairingIsBehindTheRow() {
        CrewPairer x = chain(2);
        x.addLeg(1, 0, 51, 56);
        x.ride(0, 0);
        is("behind a gap of 40", best(x, 0), "20 1");
        x.delay(1, -10);
        is("behind a gap of 30, for 20 minutes, not for 5", best(x, 0), "20 1");
        x.delay(1, 600);
        is("in another duty", best(x, 0), "20 1");
        x.cancel(1);
        x.delay(2, -1);
        is("leg 2 behind a gap of 30", best(x, 0), "5 2");
        x.delay(2, -1);
        is("leg 2 behind a gap of 29", best(x, 0), "-2");
        x.delay(2, -30);
        is("leg 2 behind a gap of -1", best(x, 0), "-2");
        x.delay(2, -19);
        is("leg 2 at the departure of the last item", best(x, 0), "-2");
        CrewPairer y = chain(4);
        y.ride(0, 2);
        y.ride(0, 3);
        is("nothing before the row, though it leads home", best(y, 0), "-2");
        CrewPairer z = chain(4);
        z.ride(0, 0);
        z.ride(0, 1);
        is("behind a row that is home", best(z, 0), "40 2 3");
        z.drop(0, 0);
        is("behind a row with a violation", best(z, 0), "-2");
        CrewPairer w = chain(2);
        w.delay(1, -10);
        is("a gap of 30", best(w, 0), "40 0 1");
        w.delay(1, -1);
        is("a gap of 29", best(w, 0), "-2");
        w.delay(1, -29);
        is("a gap of 0", best(w, 0), "-2");
        w.delay(1, -1);
        is("a gap of -1", best(w, 0), "-2");
        w.delay(1, -19);
        is("the same departure", best(w, 0), "-2");
        CrewPairer v = chain(2);
        v.addCrew(1);
        v.addCrew(2);
        is("home is another base, and the leg to it departs first", best(v, 1), "-2");
        is("home is a base without legs", best(v, 2), "-2");
    }

    @Sentence(of = "Description", says = "lead to a row without violations after which the crew is home;")
    static void descriptionABestPairingIsWithinAllRules() {
        CrewPairer x = wide();
        x.addCrew(0);
        x.addLeg(0, 1, 0, 60);
        x.addLeg(1, 0, 240, 300);
        x.addLeg(1, 0, 239, 300);
        x.setRule(2, 300);
        x.setRule(3, 121);
        x.setRule(5, 121);
        is("a duty of 300 minutes, 121 minutes flown", best(x, 0), "121 0 2");
        x.setRule(3, 120);
        is("120 minutes in a duty", best(x, 0), "120 0 1");
        x.setRule(3, 121);
        x.setRule(5, 120);
        is("120 minutes in a window", best(x, 0), "120 0 1");
        x.setRule(4, 2);
        is("2 items in a duty", best(x, 0), "120 0 1");
        x.setRule(4, 1);
        is("1 item in a duty", best(x, 0), "-2");
        x.setRule(4, 2);
        x.cancel(2);
        x.delay(1, 1);
        is("a duty of 301 minutes", best(x, 0), "-2");
        x.setRule(2, 301);
        is("if the rule allows them", best(x, 0), "120 0 1");
        CrewPairer y = wide();
        y.addCrew(0);
        y.setRule(5, 120);
        y.addLeg(0, 1, 0, 60);
        y.addLeg(1, 0, 1379, 1440);
        y.fly(0, 0);
        is("121 minutes from the first item of the row on", best(y, 0), "-2");
        y.delay(1, 1);
        is("a minute of them is outside the window", best(y, 0), "61 1");
        CrewPairer z = fullest();
        z.drop(0, 23);
        is("the last of 24 items", best(z, 0), "20 23");
        z.setRule(4, 7);
        is("not if the row has violations", best(z, 0), "-2");
    }

    @Sentence(of = "Description", says = "it is the one with the greatest sum of lengths; then with the fewest legs; then the "
            + "lexicographically first one.")
    static void descriptionTheGreatestSumThenTheFewestLegsThenTheFirst() {
        is("60 minutes by two legs", best(ways(59), 0), "60 1 2");
        is("60 minutes by one leg", best(ways(60), 0), "60 3");
        is("61 minutes", best(ways(61), 0), "61 3");
        CrewPairer x = ways(60);
        x.addLeg(1, 0, 199, 259);
        is("the same by a leg with a greater number, which departs before", best(x, 0), "60 3");
        x.addLeg(1, 0, 198, 259);
        is("a minute more", best(x, 0), "61 5");
        CrewPairer y = wide();
        y.addCrew(0);
        y.addLeg(1, 0, 300, 360);
        y.addLeg(0, 2, 100, 160);
        y.addLeg(0, 2, 101, 161);
        y.addLeg(2, 0, 300, 360);
        y.addLeg(2, 0, 301, 361);
        y.addLeg(0, 1, 100, 160);
        is("by the first leg, then by the second one", best(y, 0), "120 1 3");
        y.cancel(3);
        is("the second one is another one", best(y, 0), "120 1 4");
        y.cancel(1);
        is("the first one is another one", best(y, 0), "120 2 4");
        y.cancel(2);
        is("leg 0 is the second one", best(y, 0), "120 5 0");
    }

    @Sentence(of = "Promise 36", says = {"Returns the sum of the lengths of the legs of a best pairing.", "- `crew`: the crew",
        "Returns the sum; BAD if there is no such crew; NONE if there is no best pairing."})
    static void promise36SumsAre1To3600() {
        CrewPairer x = new CrewPairer();
        x.addCrew(0);
        x.addLeg(0, 1, 0, 60);
        x.addLeg(1, 0, 100, 101);
        x.fly(0, 0);
        is("1 minute", x.bestMinutes(0), 1);
        CrewPairer y = wide();
        y.setRule(1, 300);
        y.addCrew(0);
        for (int leg = 0; leg < 6; leg++) {
            y.addLeg(leg % 2, 1 - leg % 2, 900 * leg, 900 * leg + 600);
        }
        is("6 legs of 600 minutes", best(y, 0), "3600 0 1 2 3 4 5");
        refused("a row with a violation", Begin.SOME, z -> z.bestMinutes(0), NONE);
        asked("there is one", Begin.SOME, z -> z.bestMinutes(1), 260);
        asked("there is one for a reserve", Begin.SOME, z -> z.bestMinutes(2), 260);
        is("no legs", chain(0).bestMinutes(0), NONE);
        is("no open legs", fullest().bestMinutes(5), NONE);
        for (int wrong : new int[] {-1, 3, 6, LOW, HIGH}) {
            refused("crew " + wrong, Begin.SOME, z -> z.bestMinutes(wrong), BAD);
        }
    }

    @Sentence(of = "Promise 37", says = {"Returns a leg of a best pairing.", "- `crew`: the crew",
        "- `i`: the position, from 0, or -1 for the number of legs",
        "Returns the leg, or the number of legs; BAD if there is no such crew;"})
    static void promise37PositionsAre0To5OrMinus1() {
        CrewPairer x = chain(8);
        is("the number", x.bestLeg(0, -1), 6);
        for (int i = 0; i < 6; i++) {
            is("position " + i, x.bestLeg(0, i), i);
        }
        is("position 6", x.bestLeg(0, 6), NONE);
        asked("the number", Begin.SOME, y -> y.bestLeg(1, -1), 3);
        asked("the first", Begin.SOME, y -> y.bestLeg(1, 0), 3);
        asked("the last", Begin.SOME, y -> y.bestLeg(2, 2), 5);
        for (int wrong : new int[] {-1, 3, 6, LOW, HIGH}) {
            refused("crew " + wrong, Begin.SOME, y -> y.bestLeg(wrong, -1), BAD);
        }
    }

    @Sentence(of = "Promise 37", says = "NONE if there is no best pairing or no such position.")
    static void promise37NoBestPairingOrPosition() {
        for (int wrong : new int[] {-2, 3, 6, LOW, HIGH}) {
            refused("position " + wrong, Begin.SOME, x -> x.bestLeg(1, wrong), NONE);
        }
        refused("no best pairing, no number", Begin.SOME, x -> x.bestLeg(0, -1), NONE);
        refused("no best pairing, no leg", Begin.SOME, x -> x.bestLeg(0, 0), NONE);
        is("after a search that found one", chain(2).bestLeg(0, 0), 0);
        CrewPairer x = chain(2);
        x.addCrew(1);
        is("found", x.bestLeg(0, -1), 2);
        is("not found then", x.bestLeg(1, 0), NONE);
        is("nor a number", x.bestLeg(1, -1), NONE);
    }

    @Sentence(of = "Promise 38", says = {"Lets a crew fly the legs of a best pairing.", "- `crew`: the crew",
        "Returns the number of legs; BAD if there is no such crew;"})
    static void promise38LegsAre1To6() {
        CrewPairer x = chain(8);
        is("6 legs", x.takeBest(0), 6);
        is("row", row(x, 0), "f0 f1 f2 f3 f4 f5");
        is("2 legs", x.takeBest(0), 2);
        is("row of 8", x.itemCount(0), 8);
        is("all are covered", x.openCount(), 0);
        CrewPairer y = chain(2);
        y.ride(0, 0);
        is("1 leg", y.takeBest(0), 1);
        is("row", row(y, 0), "r0 f1");
        CrewPairer z = some();
        is("a reserve", z.takeBest(2), 3);
        is("row", row(z, 2), "f2 f3 f4 f5");
        for (int wrong : new int[] {-1, 3, 6, LOW, HIGH}) {
            refused("crew " + wrong, Begin.SOME, w -> w.takeBest(wrong), BAD);
        }
    }

    @Sentence(of = "Promise 38", says = "NONE if there is no best pairing.")
    static void promise38NoBestPairing() {
        refused("a row with a violation", Begin.SOME, x -> x.takeBest(0), NONE);
        refused("no open legs", Begin.FULLEST, x -> x.takeBest(0), NONE);
        refused("no open legs, an empty row", Begin.FULLEST, x -> x.takeBest(5), NONE);
    }
}
