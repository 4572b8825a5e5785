/** The promises of the document, a method for each: ordinary inputs, the edges that it names, wrong inputs. */
public final class PromiseTest extends Asking {
    public static void main(String[] args) {
        constants();
        promise01NewObject();
        promise02AddLeg();
        promise03AddCrew();
        promise04LegCount();
        promise05CrewCount();
        promise06Leg();
        promise07SetRule();
        promise08Rule();
        promise09Fly();
        promise09FlyReasons();
        promise10Ride();
        promise11Drop();
        promise12Reason();
        promise12ReasonOrder();
        promise13Place();
        promise14ItemCount();
        promise15Item();
        promise16DutyCount();
        promise17Duty();
        promise18ViolationCount();
        promise19Violation();
        promise19ViolationEdges();
        promise20Minutes();
        promise21Within();
        promise22Home();
        promise23Pairings();
        promise24Cost();
        promise25OpenCount();
        promise26Open();
        promise27Delay();
        promise28Cancel();
        promise29SetReserve();
        promise30Reserve();
        promise31Called();
        promise32Pair();
        promise33Offer();
        promise33OfferOrder();
        promise34Repair();
        promise34RepairReserves();
        promise35Repaired();
        promise36BestMinutes();
        promise36BestLimits();
        promise37BestLeg();
        promise38TakeBest();
        promise39Letter();
        promise40Feed();
        promise41Execute();
        promise41ExecuteErrors();
        promise41ExecuteEffects();
        promise42Save();
        promise43Restore();
        promise44Undo();
        promise44UndoOfEachChange();
        CHECK.end("PromiseTest");
    }

    private static void constants() {
        is("BAD", CrewPairer.BAD, BAD);
        is("NONE", CrewPairer.NONE, NONE);
        is("FULL", CrewPairer.FULL, FULL);
        is("DUPLICATE", CrewPairer.DUPLICATE, DUPLICATE);
        is("RANGE", CrewPairer.RANGE, RANGE);
    }

    private static void promise01NewObject() {
        CrewPairer x = new CrewPairer();
        is("1 legCount", x.legCount(), 0);
        is("1 crewCount", x.crewCount(), 0);
        is("1 openCount", x.openCount(), 0);
        is("1 open", x.open(0), NONE);
        is("1 leg", x.leg(0, 0), BAD);
        is("1 itemCount", x.itemCount(0), BAD);
        is("1 cost", x.cost(-1, 2), 0);
        is("1 repaired", x.repaired(0, 0), NONE);
        is("1 undo", x.undo(), NONE);
        is("1 restore", x.restore(), NONE);
        is("1 execute", x.execute(), -200);
        for (int rule = 0; rule < 8; rule++) {
            is("1 rule " + rule, x.rule(rule), RULE_FIRST[rule]);
        }
        x.addLeg(0, 1, 0, 60);
        x.addCrew(0);
        x.setRule(0, 50);
        x.feed('x');
        x.save();
        CrewPairer y = new CrewPairer();
        is("1 legCount of another one", y.legCount(), 0);
        is("1 crewCount of another one", y.crewCount(), 0);
        is("1 rule of another one", y.rule(0), 30);
        is("1 feed of another one", y.feed('x'), 1);
        is("1 restore of another one", y.restore(), NONE);
        is("1 undo of another one", y.undo(), NONE);
    }

    private static void promise02AddLeg() {
        CrewPairer x = new CrewPairer();
        int[] wrong = {-1, 6, LOW, HIGH};
        for (int airport : wrong) {
            is("2 from " + airport, x.addLeg(airport, 1, 10, 20), BAD);
            is("2 to " + airport, x.addLeg(1, airport, 10, 20), BAD);
        }
        is("2 same airports", x.addLeg(3, 3, 10, 20), BAD);
        is("2 departure -1", x.addLeg(0, 1, -1, 20), BAD);
        is("2 departure 6000", x.addLeg(0, 1, 6000, 6001), BAD);
        is("2 departure lowest", x.addLeg(0, 1, LOW, 20), BAD);
        is("2 departure highest", x.addLeg(0, 1, HIGH, LOW), BAD);
        is("2 arrival 6000", x.addLeg(0, 1, 5990, 6000), BAD);
        is("2 arrival at the departure", x.addLeg(0, 1, 10, 10), BAD);
        is("2 arrival earlier", x.addLeg(0, 1, 10, 9), BAD);
        is("2 arrival lowest", x.addLeg(0, 1, 10, LOW), BAD);
        is("2 arrival highest", x.addLeg(0, 1, 10, HIGH), BAD);
        is("2 601 minutes", x.addLeg(0, 1, 10, 611), BAD);
        is("2 nothing was added", x.legCount(), 0);
        is("2 nothing to undo", x.undo(), NONE);
        is("2 600 minutes from 0", x.addLeg(0, 5, 0, 600), 0);
        is("2 one minute until 5999", x.addLeg(5, 0, 5998, 5999), 1);
        is("2 departure 5999 has no arrival", x.addLeg(5, 0, 5999, 5999), BAD);
        is("2 duplicate", x.addLeg(0, 5, 0, 600), DUPLICATE);
        is("2 duplicate with another arrival", x.addLeg(0, 5, 0, 1), DUPLICATE);
        is("2 BAD before DUPLICATE", x.addLeg(0, 5, 0, 601), BAD);
        is("2 another departure", x.addLeg(0, 5, 1, 600), 2);
        is("2 another from", x.addLeg(1, 5, 0, 600), 3);
        is("2 another to", x.addLeg(0, 4, 0, 600), 4);
        is("2 the way back", x.addLeg(5, 0, 0, 600), 5);
        x.cancel(4);
        is("2 duplicate of a cancelled one", x.addLeg(0, 4, 0, 600), DUPLICATE);
        for (int leg = 6; leg < 24; leg++) {
            is("2 leg " + leg, x.addLeg(2, 3, leg, 60), leg);
        }
        is("2 full", x.addLeg(2, 3, 30, 60), FULL);
        is("2 DUPLICATE before FULL", x.addLeg(2, 3, 23, 60), DUPLICATE);
        is("2 BAD before FULL", x.addLeg(2, 2, 30, 60), BAD);
        is("2 legs", x.legCount(), 24);
        is("2 a new leg is not cancelled", x.leg(23, 4), 0);
        is("2 a new leg is not covered", x.leg(23, 5), NONE);
    }

    private static void promise03AddCrew() {
        CrewPairer x = new CrewPairer();
        for (int base : new int[] {-1, 6, LOW, HIGH}) {
            is("3 base " + base, x.addCrew(base), BAD);
        }
        is("3 nothing was added", x.crewCount(), 0);
        for (int crew = 0; crew < 6; crew++) {
            is("3 crew " + crew, x.addCrew(5 - crew), crew);
            is("3 empty row " + crew, x.itemCount(crew), 0);
            is("3 no reserve " + crew, x.reserve(crew, 0), NONE);
        }
        is("3 full", x.addCrew(0), FULL);
        is("3 BAD before FULL", x.addCrew(6), BAD);
        x.addLeg(5, 0, 0, 10);
        is("3 the base of crew 0 is 5", x.reason(0, 0, true), 0);
        is("3 the base of crew 5 is 0", x.reason(5, 0, true), 2);
    }

    private static void promise04LegCount() {
        CrewPairer x = shuttle(1);
        is("4 legs", x.legCount(), 4);
        x.cancel(1);
        is("4 a cancelled one counts", x.legCount(), 4);
        x.addLeg(0, 0, 0, 1);
        is("4 a wrong one does not", x.legCount(), 4);
        x.addLeg(0, 2, 0, 1);
        is("4 one more", x.legCount(), 5);
        x.undo();
        is("4 undone", x.legCount(), 4);
    }

    private static void promise05CrewCount() {
        CrewPairer x = shuttle(2);
        is("5 crews", x.crewCount(), 2);
        x.addCrew(-1);
        is("5 a wrong one does not count", x.crewCount(), 2);
        x.setReserve(1, 0, 100);
        is("5 a reserve counts", x.crewCount(), 2);
        x.addCrew(3);
        is("5 one more", x.crewCount(), 3);
    }

    private static void promise06Leg() {
        CrewPairer x = new CrewPairer();
        x.addLeg(2, 4, 100, 250);
        x.addLeg(4, 2, 300, 301);
        x.addCrew(2);
        x.addCrew(2);
        int[] due = {2, 4, 100, 250, 0, NONE};
        for (int what = 0; what < 6; what++) {
            is("6 what " + what, x.leg(0, what), due[what]);
        }
        is("6 arrival of leg 1", x.leg(1, 3), 301);
        for (int wrong : new int[] {-1, 2, 24, LOW, HIGH}) {
            is("6 leg " + wrong, x.leg(wrong, 0), BAD);
        }
        for (int wrong : new int[] {-1, 6, LOW, HIGH}) {
            is("6 what " + wrong, x.leg(0, wrong), BAD);
        }
        x.ride(0, 0);
        is("6 ridden is not covered", x.leg(0, 5), NONE);
        x.fly(1, 0);
        is("6 flown by crew 1", x.leg(0, 5), 1);
        x.cancel(0);
        is("6 cancelled", x.leg(0, 4), 1);
        is("6 cancelled is not covered", x.leg(0, 5), NONE);
        is("6 the other one is not cancelled", x.leg(1, 4), 0);
    }

    private static void promise07SetRule() {
        CrewPairer x = new CrewPairer();
        for (int rule = 0; rule < 8; rule++) {
            is("7 too low " + rule, x.setRule(rule, RULE_LEAST[rule] - 1), BAD);
            is("7 too high " + rule, x.setRule(rule, RULE_MOST[rule] + 1), BAD);
            is("7 unchanged " + rule, x.rule(rule), RULE_FIRST[rule]);
            is("7 lowest " + rule, x.setRule(rule, RULE_LEAST[rule]), RULE_FIRST[rule]);
            is("7 highest " + rule, x.setRule(rule, RULE_MOST[rule]), RULE_LEAST[rule]);
            is("7 the same again " + rule, x.setRule(rule, RULE_MOST[rule]), RULE_MOST[rule]);
        }
        for (int wrong : new int[] {-1, 8, LOW, HIGH}) {
            is("7 rule " + wrong, x.setRule(wrong, 300), BAD);
        }
        for (int wrong : new int[] {LOW, HIGH}) {
            is("7 value " + wrong, x.setRule(1, wrong), BAD);
        }
        CrewPairer y = shuttle(1);
        y.fly(0, 0);
        y.fly(0, 1);
        y.setRule(0, 61);
        is("7 a rule may bring violations", y.violationCount(0), 1);
        y.setRule(0, 60);
        is("7 and take them away", y.violationCount(0), 0);
    }

    private static void promise08Rule() {
        CrewPairer x = new CrewPairer();
        for (int rule = 0; rule < 8; rule++) {
            x.setRule(rule, RULE_MOST[rule] - rule);
        }
        for (int rule = 0; rule < 8; rule++) {
            is("8 rule " + rule, x.rule(rule), RULE_MOST[rule] - rule);
        }
        for (int wrong : new int[] {-1, 8, LOW, HIGH}) {
            is("8 rule " + wrong, x.rule(wrong), BAD);
        }
    }

    private static void promise09Fly() {
        CrewPairer x = wide();
        x.addLeg(0, 1, 480, 540);
        x.addLeg(1, 0, 900, 960);
        x.addLeg(1, 2, 600, 660);
        x.addLeg(2, 1, 720, 780);
        x.addCrew(0);
        x.addCrew(1);
        is("9 first", x.fly(0, 0), 0);
        is("9 last", x.fly(0, 1), 1);
        is("9 the row", row(x, 0).length(), 5);
        is("9 between, but not connected", x.fly(0, 2), -102);
        x.addLeg(0, 1, 300, 301);
        x.addLeg(1, 0, 400, 401);
        is("9 before the row, but not connected", x.fly(0, 4), -102);
        x.ride(0, 5);
        is("9 behind", x.fly(1, 2), 0);
        is("9 behind", x.fly(1, 3), 1);
        is("9 covers", x.leg(3, 5), 1);
        for (int wrong : new int[] {-1, 2, 6, LOW, HIGH}) {
            is("9 crew " + wrong, x.fly(wrong, 0), BAD);
        }
        for (int wrong : new int[] {-1, 6, 24, LOW, HIGH}) {
            is("9 leg " + wrong, x.fly(0, wrong), BAD);
        }
        CHECK.is("9 rows", row(x, 0) + "," + row(x, 1), "f0 f1,f2 f3");
        CrewPairer y = wide();
        y.addLeg(0, 1, 480, 540);
        y.addLeg(0, 1, 600, 660);
        y.addLeg(1, 0, 570, 571);
        y.addCrew(0);
        y.fly(0, 0);
        y.fly(0, 2);
        is("9 behind a leg with a lower number", y.reason(0, 1, true), 3);
        y.setRule(0, 29);
        is("9 position 2", y.fly(0, 1), 2);
        is("9 drop the middle", y.drop(0, 2), 2);
        is("9 in the middle, where it takes the violation away", y.fly(0, 2), 1);
        CHECK.is("9 row", row(y, 0), "f0 f2 f1");
    }

    private static void promise09FlyReasons() {
        CrewPairer x = new CrewPairer();
        x.addCrew(0);
        x.addCrew(0);
        x.addLeg(0, 1, 100, 160);
        x.addLeg(1, 0, 159, 200);
        x.addLeg(2, 0, 300, 310);
        x.addLeg(1, 0, 189, 240);
        x.addLeg(1, 0, 821, 822);
        x.addLeg(1, 0, 500, 560);
        x.fly(0, 0);
        is("9 reason 1", x.fly(0, 1), -101);
        is("9 reason 2", x.fly(0, 2), -102);
        is("9 reason 3", x.fly(0, 3), -103);
        x.setRule(1, 900);
        is("9 reason 4", x.fly(0, 4), -104);
        x.setRule(3, 120);
        x.setRule(5, 120);
        is("9 120 minutes are as many as the flight and window rules allow", x.fly(0, 5), 1);
        x.addLeg(0, 1, 600, 601);
        is("9 reason 5", x.fly(0, 6), -105);
        x.setRule(3, 121);
        is("9 reason 7", x.fly(0, 6), -107);
        x.setRule(5, 121);
        x.setRule(4, 2);
        is("9 reason 6", x.fly(0, 6), -106);
        is("9 reason 8", x.fly(1, 0), -108);
        is("9 reason 9", x.fly(0, 0), -109);
        x.cancel(6);
        is("9 reason 10", x.fly(0, 6), -110);
        CHECK.is("9 nothing changed", row(x, 0) + "," + row(x, 1), "f0 f5,");
        CHECK.is("9 violations", violations(x, 0), "");
    }

    private static void promise10Ride() {
        CrewPairer x = shuttle(3);
        is("10 ride an open leg", x.ride(0, 0), 0);
        is("10 it stays open", x.leg(0, 5), NONE);
        is("10 fly what another one rides on", x.fly(1, 0), 0);
        is("10 ride a covered leg", x.ride(2, 0), 0);
        is("10 it is covered", x.leg(0, 5), 1);
        is("10 ride back", x.ride(0, 1), 1);
        is("10 reason 9", x.ride(0, 1), -109);
        is("10 reason 9 for a flown one", x.ride(1, 0), -109);
        is("10 reason 2", x.ride(1, 2), -102);
        is("10 reason 2 for the first one", x.ride(0, 2), 2);
        x.cancel(3);
        is("10 reason 10", x.ride(0, 3), -110);
        for (int wrong : new int[] {-1, 3, LOW, HIGH}) {
            is("10 crew " + wrong, x.ride(wrong, 0), BAD);
        }
        for (int wrong : new int[] {-1, 4, LOW, HIGH}) {
            is("10 leg " + wrong, x.ride(0, wrong), BAD);
        }
        CHECK.is("10 rows", row(x, 0) + "," + row(x, 1) + "," + row(x, 2), "r0 r1 r2,f0,r0");
        is("10 a deadhead is not flown", x.minutes(0), 0);
        CrewPairer y = new CrewPairer();
        y.addCrew(0);
        y.addLeg(0, 1, 0, 600);
        is("10 the flight rule is not for deadheads", y.ride(0, 0), 0);
        CrewPairer z = new CrewPairer();
        z.addCrew(0);
        z.setRule(2, 599);
        z.addLeg(0, 1, 0, 600);
        is("10 the duty rule is", z.ride(0, 0), -104);
    }

    private static void promise11Drop() {
        CrewPairer x = shuttle(2);
        x.fly(0, 0);
        x.fly(0, 1);
        x.fly(0, 2);
        x.ride(1, 0);
        is("11 not in the row", x.drop(0, 3), NONE);
        is("11 not in this row", x.drop(1, 1), NONE);
        is("11 drop", x.drop(0, 1), 2);
        CHECK.is("11 it leads to violations", violations(x, 0), "2@1");
        is("11 it is open", x.leg(1, 5), NONE);
        is("11 drop a deadhead", x.drop(1, 0), 0);
        is("11 the flyer stays", x.leg(0, 5), 0);
        is("11 twice", x.drop(1, 0), NONE);
        for (int wrong : new int[] {-1, 2, LOW, HIGH}) {
            is("11 crew " + wrong, x.drop(wrong, 0), BAD);
        }
        for (int wrong : new int[] {-1, 4, LOW, HIGH}) {
            is("11 leg " + wrong, x.drop(0, wrong), BAD);
        }
        is("11 drop", x.drop(0, 0), 1);
        is("11 drop", x.drop(0, 2), 0);
    }

    private static void promise12Reason() {
        CrewPairer x = shuttle(2);
        is("12 none", x.reason(0, 0, true), 0);
        is("12 it takes nothing", x.itemCount(0), 0);
        is("12 base", x.reason(0, 1, true), 2);
        x.fly(0, 0);
        is("12 covered", x.reason(1, 0, true), 8);
        is("12 covered, ride", x.reason(1, 0, false), 0);
        is("12 own", x.reason(0, 0, true), 9);
        is("12 own, ride", x.reason(0, 0, false), 9);
        x.cancel(1);
        is("12 cancelled", x.reason(0, 1, true), 10);
        is("12 cancelled, ride", x.reason(0, 1, false), 10);
        for (int wrong : new int[] {-1, 2, LOW, HIGH}) {
            is("12 crew " + wrong, x.reason(wrong, 0, true), BAD);
        }
        for (int wrong : new int[] {-1, 4, LOW, HIGH}) {
            is("12 leg " + wrong, x.reason(0, wrong, false), BAD);
        }
        is("12 no change", x.undo(), 7);
    }

    private static void promise12ReasonOrder() {
        CrewPairer x = wide();
        x.addCrew(0);
        x.addCrew(0);
        x.addLeg(0, 1, 480, 540);
        x.addLeg(1, 0, 600, 660);
        x.addLeg(0, 1, 720, 780);
        x.addLeg(1, 0, 840, 900);
        x.fly(0, 0);
        x.fly(0, 1);
        x.fly(0, 2);
        x.drop(0, 1);
        is("12 a violation that the row has anyway", x.reason(0, 3, true), 2);
        is("12 the leg that takes it away", x.reason(0, 1, true), 0);
        x.fly(0, 1);
        x.drop(0, 0);
        is("12 a violation of another item", x.reason(0, 3, false), 2);
        is("12 which has its place", x.place(0, 3, false), 0);
        x.fly(1, 0);
        is("12 covered, though it would take the violation away", x.reason(0, 0, true), 8);
        is("12 so a ride will do", x.reason(0, 0, false), 0);
        x.setReserve(1, 0, 6000);
        x.drop(0, 1);
        is("12 a reserve can take legs", x.reason(1, 1, true), 0);
        CrewPairer y = new CrewPairer();
        y.addCrew(0);
        y.addCrew(0);
        y.addLeg(0, 1, 480, 540);
        y.addLeg(3, 0, 500, 560);
        y.addLeg(1, 0, 1000, 1010);
        y.fly(0, 0);
        is("12 kind 1 before kind 2", y.reason(0, 1, true), 1);
        is("12 place of the first one by kind", y.place(0, 1, true), 1);
        is("12 ride a leg that it can't fly for the same reasons", y.reason(0, 1, false), 1);
    }

    private static void promise13Place() {
        CrewPairer x = shuttle(2);
        is("13 no reason", x.place(0, 0, true), NONE);
        is("13 the first one", x.place(0, 1, true), 0);
        x.fly(0, 0);
        is("13 the second one", x.place(0, 2, true), 1);
        is("13 reason 8", x.place(1, 0, true), NONE);
        is("13 reason 9", x.place(0, 0, true), NONE);
        x.cancel(3);
        is("13 reason 10", x.place(0, 3, false), NONE);
        x.addLeg(1, 0, 1000, 1001);
        x.fly(0, 4);
        x.addLeg(0, 1, 1001, 1002);
        is("13 the connection", x.place(0, 5, true), 2);
        x.addLeg(0, 1, 999, 1300);
        is("13 the item behind the leg has not this violation first", x.reason(0, 6, true), 1);
        is("13 the place is behind the leg", x.place(0, 6, true), 2);
        x.setRule(2, 300);
        x.addLeg(0, 1, 1100, 1101);
        is("13 the duty", x.reason(0, 7, true), 4);
        is("13 the first one of the duty", x.place(0, 7, true), 0);
        for (int wrong : new int[] {-1, 2, LOW, HIGH}) {
            is("13 crew " + wrong, x.place(wrong, 0, true), BAD);
        }
        for (int wrong : new int[] {-1, 8, LOW, HIGH}) {
            is("13 leg " + wrong, x.place(0, wrong, true), BAD);
        }
        CHECK.is("13 it takes nothing", row(x, 0), "f0 f4");
    }

    private static void promise14ItemCount() {
        CrewPairer x = shuttle(2);
        is("14 empty", x.itemCount(0), 0);
        x.fly(0, 0);
        x.ride(0, 1);
        x.fly(0, 2);
        is("14 flown and ridden", x.itemCount(0), 3);
        is("14 the other one", x.itemCount(1), 0);
        x.cancel(2);
        is("14 cancelled", x.itemCount(0), 2);
        for (int wrong : new int[] {-1, 2, LOW, HIGH}) {
            is("14 crew " + wrong, x.itemCount(wrong), BAD);
        }
    }

    private static void promise15Item() {
        CrewPairer x = wide();
        x.addCrew(0);
        x.addLeg(1, 0, 1300, 1360);
        x.addLeg(0, 1, 480, 540);
        x.addLeg(1, 2, 600, 660);
        x.addLeg(2, 1, 1259, 1270);
        x.fly(0, 1);
        x.ride(0, 2);
        x.fly(0, 3);
        x.fly(0, 0);
        CHECK.is("15 row", row(x, 0), "f1 r2 f3 f0");
        int[] duties = {0, 0, 0, 0};
        for (int i = 0; i < 4; i++) {
            is("15 599 minutes end no duty, item " + i, x.item(0, i, 2), duties[i]);
        }
        x.delay(3, 1);
        x.delay(0, 5);
        int[] later = {0, 0, 1, 1};
        for (int i = 0; i < 4; i++) {
            is("15 600 minutes do, item " + i, x.item(0, i, 2), later[i]);
        }
        for (int wrong : new int[] {-1, 4, 24, LOW, HIGH}) {
            is("15 position " + wrong, x.item(0, wrong, 0), NONE);
        }
        for (int wrong : new int[] {-1, 3, LOW, HIGH}) {
            is("15 what " + wrong, x.item(0, 0, wrong), BAD);
            is("15 BAD before NONE", x.item(0, 4, wrong), BAD);
        }
        for (int wrong : new int[] {-1, 1, LOW, HIGH}) {
            is("15 crew " + wrong, x.item(wrong, 0, 0), BAD);
        }
        CrewPairer y = wide();
        y.addCrew(0);
        y.addLeg(0, 1, 500, 510);
        y.addLeg(0, 2, 600, 610);
        y.addLeg(1, 0, 550, 560);
        y.fly(0, 0);
        y.fly(0, 2);
        y.fly(0, 1);
        y.delay(2, 50);
        CHECK.is("15 the same departure: by the number", row(y, 0), "f0 f1 f2");
        y.delay(0, 100);
        CHECK.is("15 all at the same time", row(y, 0), "f0 f1 f2");
        y.delay(0, 1);
        CHECK.is("15 later by a minute", row(y, 0), "f1 f2 f0");
    }

    private static void promise16DutyCount() {
        CrewPairer x = new CrewPairer();
        x.addCrew(0);
        x.addLeg(0, 1, 0, 60);
        x.addLeg(1, 0, 660, 720);
        x.addLeg(0, 1, 1320, 1380);
        is("16 empty row", x.dutyCount(0), 0);
        x.fly(0, 0);
        is("16 one item", x.dutyCount(0), 1);
        x.ride(0, 1);
        is("16 a gap of 600", x.dutyCount(0), 2);
        x.fly(0, 2);
        is("16 two gaps of 600", x.dutyCount(0), 3);
        x.setRule(1, 601);
        is("16 a gap less than the rest", x.dutyCount(0), 1);
        x.setRule(1, 600);
        x.delay(1, -1);
        is("16 one gap of 599 and one of 601", x.dutyCount(0), 2);
        for (int wrong : new int[] {-1, 1, LOW, HIGH}) {
            is("16 crew " + wrong, x.dutyCount(wrong), BAD);
        }
    }

    private static void promise17Duty() {
        CrewPairer x = wide();
        x.addCrew(0);
        x.addLeg(0, 1, 480, 540);
        x.addLeg(1, 0, 600, 670);
        x.addLeg(0, 1, 1270, 1350);
        x.addLeg(1, 2, 1400, 1490);
        x.addLeg(2, 0, 1600, 1700);
        x.fly(0, 0);
        x.ride(0, 1);
        x.fly(0, 2);
        x.fly(0, 3);
        x.ride(0, 4);
        int[][] due = {{190, 60, 2, 0}, {430, 170, 3, 2}};
        for (int duty = 0; duty < 2; duty++) {
            for (int what = 0; what < 4; what++) {
                is("17 duty " + duty + " what " + what, x.duty(0, duty, what), due[duty][what]);
            }
        }
        for (int wrong : new int[] {-1, 2, LOW, HIGH}) {
            is("17 duty " + wrong, x.duty(0, wrong, 0), NONE);
        }
        for (int wrong : new int[] {-1, 4, LOW, HIGH}) {
            is("17 what " + wrong, x.duty(0, 0, wrong), BAD);
            is("17 BAD before NONE", x.duty(0, 2, wrong), BAD);
        }
        for (int wrong : new int[] {-1, 1, LOW, HIGH}) {
            is("17 crew " + wrong, x.duty(wrong, 0, 0), BAD);
        }
        x.addCrew(3);
        is("17 an empty row", x.duty(1, 0, 0), NONE);
        CrewPairer y = wide();
        y.addCrew(0);
        y.addLeg(0, 1, 480, 540);
        y.addLeg(1, 0, 600, 620);
        y.fly(0, 0);
        y.fly(0, 1);
        y.delay(1, -110);
        is("17 until the arrival of the last item, not the latest one", y.duty(0, 0, 0), 30);
    }

    private static void promise18ViolationCount() {
        CrewPairer x = shuttle(2);
        is("18 empty row", x.violationCount(0), 0);
        for (int leg = 0; leg < 4; leg++) {
            x.fly(0, leg);
        }
        is("18 none", x.violationCount(0), 0);
        x.setRule(0, 61);
        is("18 three connections", x.violationCount(0), 3);
        x.setRule(4, 3);
        is("18 and the legs", x.violationCount(0), 4);
        is("18 the other crew", x.violationCount(1), 0);
        for (int wrong : new int[] {-1, 2, LOW, HIGH}) {
            is("18 crew " + wrong, x.violationCount(wrong), BAD);
        }
    }

    private static void promise19Violation() {
        CrewPairer x = wide();
        x.addCrew(0);
        x.setRule(2, 960);
        for (int i = 0; i < 8; i++) {
            x.addLeg(i % 2, 1 - i % 2, 120 * i, 120 * i + 90);
            is("19 fly " + i, x.fly(0, i), i);
        }
        x.setRule(2, 929);
        x.setRule(3, 719);
        x.setRule(4, 7);
        x.setRule(5, 719);
        CHECK.is("19 duty, flight, legs and window", violations(x, 0), "4@0 5@0 6@0 7@0");
        x.setRule(0, 31);
        CHECK.is("19 all connections", violations(x, 0), "3@1 3@2 3@3 3@4 3@5 3@6 3@7 4@0 5@0 6@0 7@0");
        x.setRule(0, 30);
        x.drop(0, 3);
        CHECK.is("19 a leg is missing", violations(x, 0), "2@3 4@0");
        x.delay(2, 250);
        CHECK.is("19 two items at once", violations(x, 0), "1@3 2@3 3@4 4@0");
        is("19 kind", x.violation(0, 2, 0), 3);
        is("19 place", x.violation(0, 2, 1), 4);
        for (int wrong : new int[] {-1, 4, LOW, HIGH}) {
            is("19 position " + wrong, x.violation(0, wrong, 0), NONE);
        }
        for (int wrong : new int[] {-1, 2, LOW, HIGH}) {
            is("19 what " + wrong, x.violation(0, 0, wrong), BAD);
            is("19 BAD before NONE", x.violation(0, 4, wrong), BAD);
        }
        for (int wrong : new int[] {-1, 1, LOW, HIGH}) {
            is("19 crew " + wrong, x.violation(wrong, 0, 0), BAD);
        }
    }

    private static void promise19ViolationEdges() {
        CrewPairer x = wide();
        x.addCrew(0);
        x.addLeg(0, 1, 100, 160);
        x.addLeg(1, 0, 190, 250);
        x.fly(0, 0);
        x.fly(0, 1);
        CHECK.is("19 a gap of 30", violations(x, 0), "");
        x.delay(1, -1);
        CHECK.is("19 a gap of 29", violations(x, 0), "3@1");
        x.delay(1, -29);
        CHECK.is("19 a gap of 0", violations(x, 0), "3@1");
        x.delay(1, -1);
        CHECK.is("19 a gap of -1", violations(x, 0), "1@1");
        x.delay(1, -100);
        CHECK.is("19 the order is another one", violations(x, 0), "1@1 2@0");
        CrewPairer y = wide();
        y.addCrew(0);
        y.addLeg(0, 1, 0, 300);
        y.addLeg(1, 0, 1400, 1500);
        y.addLeg(0, 1, 1600, 1700);
        y.fly(0, 0);
        y.fly(0, 1);
        y.fly(0, 2);
        y.setRule(5, 340);
        CHECK.is("19 within 1440 minutes from 0 on: 300 and 40", violations(y, 0), "");
        y.delay(1, -1);
        CHECK.is("19 300 and 41", violations(y, 0), "7@0");
        y.setRule(5, 199);
        CHECK.is("19 from 1399 on: 100 and 100", violations(y, 0), "7@0 7@1");
        y.setRule(5, 1200);
        y.drop(0, 1);
        y.ride(0, 1);
        y.drop(0, 0);
        y.ride(0, 0);
        CHECK.is("19 row", row(y, 0), "r0 r1 f2");
        y.setRule(5, 120);
        CHECK.is("19 only flown items have windows", violations(y, 0), "");
        y.setRule(2, 300);
        CHECK.is("19 301 minutes in the second duty", violations(y, 0), "4@1");
        y.delay(2, -1);
        CHECK.is("19 300 minutes in each", violations(y, 0), "");
        y.setRule(4, 1);
        CHECK.is("19 two items in the second duty", violations(y, 0), "6@1");
        CrewPairer z = wide();
        z.addCrew(0);
        z.addLeg(0, 1, 0, 120);
        z.addLeg(1, 0, 1000, 1060);
        z.addLeg(0, 1, 1100, 1161);
        z.fly(0, 0);
        z.fly(0, 1);
        z.fly(0, 2);
        z.setRule(3, 120);
        CHECK.is("19 121 minutes flown in the second duty", violations(z, 0), "5@1");
        z.setRule(3, 121);
        CHECK.is("19 as the flight rule allows", violations(z, 0), "");
        z.setRule(3, 120);
        z.drop(0, 1);
        z.ride(0, 1);
        CHECK.is("19 row", row(z, 0), "f0 r1 f2");
        CHECK.is("19 a deadhead is not flown", violations(z, 0), "");
    }

    private static void promise20Minutes() {
        CrewPairer x = shuttle(2);
        is("20 none", x.minutes(0), 0);
        x.fly(0, 0);
        x.ride(0, 1);
        is("20 only flown ones", x.minutes(0), 60);
        x.addLeg(0, 3, 720, 721);
        x.fly(0, 4);
        is("20 two", x.minutes(0), 61);
        x.delay(4, 30);
        is("20 delayed", x.minutes(0), 61);
        is("20 the other crew", x.minutes(1), 0);
        for (int wrong : new int[] {-1, 2, LOW, HIGH}) {
            is("20 crew " + wrong, x.minutes(wrong), BAD);
        }
    }

    private static void promise21Within() {
        CrewPairer x = shuttle(1);
        x.fly(0, 0);
        x.ride(0, 1);
        x.fly(0, 2);
        is("21 all", x.within(0, 0, 6000), 120);
        is("21 before", x.within(0, 0, 480), 0);
        is("21 the first minute", x.within(0, 0, 481), 1);
        is("21 one minute", x.within(0, 480, 1), 1);
        is("21 the last minute", x.within(0, 539, 1), 1);
        is("21 behind", x.within(0, 540, 1), 0);
        is("21 inside", x.within(0, 490, 20), 20);
        is("21 the ends of both", x.within(0, 530, 200), 20);
        is("21 not the deadhead", x.within(0, 600, 60), 0);
        is("21 from 5999 on", x.within(0, 5999, 6000), 0);
        for (int wrong : new int[] {-1, 6000, LOW, HIGH}) {
            is("21 start " + wrong, x.within(0, wrong, 10), BAD);
        }
        for (int wrong : new int[] {-1, 0, 6001, LOW, HIGH}) {
            is("21 length " + wrong, x.within(0, 10, wrong), BAD);
        }
        for (int wrong : new int[] {-1, 1, LOW, HIGH}) {
            is("21 crew " + wrong, x.within(wrong, 0, 10), BAD);
        }
        x.addLeg(1, 0, 5998, 5999);
        x.fly(0, 4);
        is("21 to the end", x.within(0, 5998, 6000), 1);
        is("21 from 5999 on", x.within(0, 5999, 1), 0);
        x.delay(2, -200);
        is("21 minutes of two legs at once count twice", x.within(0, 500, 40), 60);
    }

    private static void promise22Home() {
        CrewPairer x = shuttle(2);
        is("22 empty row", x.home(0), 1);
        x.fly(0, 0);
        is("22 away", x.home(0), 0);
        x.ride(0, 1);
        is("22 back", x.home(0), 1);
        x.drop(0, 0);
        is("22 the last item arrives at the base, whatever is before", x.home(0), 1);
        for (int wrong : new int[] {-1, 2, LOW, HIGH}) {
            is("22 crew " + wrong, x.home(wrong), BAD);
        }
    }

    private static void promise23Pairings() {
        CrewPairer x = new CrewPairer();
        x.addCrew(0);
        x.addLeg(0, 1, 0, 60);
        x.addLeg(1, 0, 100, 160);
        x.addLeg(0, 1, 760, 800);
        x.addLeg(1, 0, 1400, 1460);
        x.addLeg(0, 1, 2100, 2160);
        is("23 empty row", x.pairings(0), 0);
        x.fly(0, 0);
        is("23 away", x.pairings(0), 0);
        x.fly(0, 1);
        is("23 the last item", x.pairings(0), 1);
        x.ride(0, 2);
        is("23 the base, then a gap of 600", x.pairings(0), 1);
        x.ride(0, 3);
        is("23 a night away, then the base", x.pairings(0), 2);
        x.fly(0, 4);
        is("23 not home", x.pairings(0), 2);
        x.delay(2, -1);
        is("23 a gap of 599 ends no duty", x.pairings(0), 1);
        for (int wrong : new int[] {-1, 1, LOW, HIGH}) {
            is("23 crew " + wrong, x.pairings(wrong), BAD);
        }
    }

    private static void promise24Cost() {
        CrewPairer x = new CrewPairer();
        x.addCrew(0);
        x.addCrew(0);
        x.addLeg(0, 1, 0, 61);
        x.addLeg(1, 0, 661, 700);
        x.addLeg(0, 1, 1300, 1303);
        is("24 nothing", x.cost(-1, 2), 0);
        x.ride(0, 0);
        x.fly(0, 1);
        x.ride(0, 2);
        x.fly(1, 0);
        is("24 deadheads", x.cost(0, 0), 640);
        is("24 one night away; the other gap follows the base", x.cost(0, 1), 500);
        is("24 both", x.cost(0, 2), 1140);
        x.ride(1, 1);
        is("24 a night after a flown item", x.cost(1, 1), 500);
        is("24 all, deadheads", x.cost(-1, 0), 640 + 390);
        is("24 all, nights", x.cost(-1, 1), 1000);
        is("24 all, both", x.cost(-1, 2), 2030);
        x.setRule(6, 99);
        x.setRule(7, 9999);
        is("24 other costs", x.cost(0, 2), 64 * 99 + 9999);
        x.setRule(6, 0);
        x.setRule(7, 0);
        is("24 no costs", x.cost(-1, 2), 0);
        x.setRule(7, 1);
        x.setRule(1, 601);
        is("24 less than the rest is no night", x.cost(-1, 1), 0);
        for (int wrong : new int[] {-2, 2, LOW, HIGH}) {
            is("24 crew " + wrong, x.cost(wrong, 0), BAD);
        }
        for (int wrong : new int[] {-1, 3, LOW, HIGH}) {
            is("24 what " + wrong, x.cost(0, wrong), BAD);
            is("24 what " + wrong + " of all", x.cost(-1, wrong), BAD);
        }
    }

    private static void promise25OpenCount() {
        CrewPairer x = shuttle(2);
        is("25 all", x.openCount(), 4);
        x.fly(0, 0);
        is("25 flown", x.openCount(), 3);
        x.ride(1, 0);
        x.ride(0, 1);
        is("25 a deadhead covers nothing", x.openCount(), 3);
        x.cancel(3);
        is("25 cancelled", x.openCount(), 2);
        x.cancel(0);
        is("25 flown, then cancelled", x.openCount(), 2);
        x.fly(1, 2);
        x.drop(1, 2);
        is("25 dropped", x.openCount(), 2);
    }

    private static void promise26Open() {
        CrewPairer x = new CrewPairer();
        x.addLeg(0, 1, 500, 510);
        x.addLeg(0, 2, 300, 310);
        x.addLeg(0, 3, 500, 505);
        x.addLeg(0, 4, 400, 410);
        x.addCrew(0);
        CHECK.is("26 by departure, then by number", open(x), "1 3 0 2");
        for (int wrong : new int[] {-1, 4, LOW, HIGH}) {
            is("26 position " + wrong, x.open(wrong), NONE);
        }
        x.fly(0, 3);
        x.cancel(0);
        CHECK.is("26 neither covered nor cancelled", open(x), "1 2");
        is("26 no third one", x.open(2), NONE);
        x.delay(1, 200);
        CHECK.is("26 delayed to the same departure", open(x), "1 2");
        x.delay(1, 1);
        CHECK.is("26 delayed", open(x), "2 1");
    }

    private static void promise27Delay() {
        CrewPairer x = shuttle(2);
        x.fly(0, 0);
        x.fly(0, 1);
        x.ride(1, 0);
        x.ride(1, 1);
        is("27 a gap of 30 is enough", x.delay(0, 30), 0);
        is("27 departure", x.leg(0, 2), 510);
        is("27 arrival", x.leg(0, 3), 570);
        is("27 two crews", x.delay(0, 1), 2);
        is("27 no minutes", x.delay(0, 0), 2);
        is("27 earlier", x.delay(0, -31), 0);
        is("27 behind the other one", x.delay(0, 121), 2);
        CHECK.is("27 reordered", row(x, 0) + "," + row(x, 1), "f1 f0,r1 r0");
        is("27 back", x.delay(0, -121), 0);
        for (int wrong : new int[] {-1, 4, LOW, HIGH}) {
            is("27 leg " + wrong, x.delay(wrong, 0), BAD);
        }
        for (int wrong : new int[] {-601, 601, LOW, HIGH}) {
            is("27 minutes " + wrong, x.delay(0, wrong), BAD);
        }
        is("27 to -1", x.delay(0, -481), RANGE);
        is("27 to 0", x.delay(0, -480), 0);
        is("27 earliest", x.delay(3, -600), 0);
        is("27 latest", x.delay(3, 600), 0);
        x.addLeg(4, 5, 5400, 5500);
        is("27 to 6000", x.delay(4, 500), RANGE);
        is("27 to 5999", x.delay(4, 499), 0);
        is("27 a duplicate", x.delay(2, -720), BAD);
        is("27 a duplicate", x.delay(2, -600), 0);
        is("27 a duplicate", x.delay(2, -120), DUPLICATE);
        x.cancel(0);
        is("27 a duplicate of a cancelled one", x.delay(2, -120), DUPLICATE);
        is("27 not moved", x.leg(2, 2), 120);
        is("27 RANGE before DUPLICATE", x.delay(2, -121), RANGE);
        is("27 a cancelled one", x.delay(0, 100), 2);
        is("27 it has moved", x.leg(0, 2), 100);
        is("27 a cancelled one to a duplicate", x.delay(0, 20), DUPLICATE);
        is("27 no other leg there any more", x.delay(2, -120), 2);
    }

    private static void promise28Cancel() {
        CrewPairer x = shuttle(3);
        x.fly(0, 0);
        x.fly(0, 1);
        x.ride(1, 0);
        x.ride(2, 0);
        is("28 in three rows", x.cancel(0), 3);
        CHECK.is("28 it leaves them", row(x, 0) + "," + row(x, 1) + "," + row(x, 2), "f1,,");
        is("28 cancelled", x.leg(0, 4), 1);
        CHECK.is("28 violations may follow", violations(x, 0), "2@0");
        is("28 again", x.cancel(0), NONE);
        is("28 in no row", x.cancel(3), 0);
        is("28 in one row", x.cancel(1), 1);
        for (int wrong : new int[] {-1, 4, LOW, HIGH}) {
            is("28 leg " + wrong, x.cancel(wrong), BAD);
        }
    }

    private static void promise29SetReserve() {
        CrewPairer x = shuttle(2);
        is("29 none before", x.setReserve(0, 100, 200), 0);
        is("29 one before", x.setReserve(0, 0, 6000), 1);
        is("29 in place of the earlier period", x.reserve(0, 1), 6000);
        is("29 no reserve", x.setReserve(0, 5999, 5999), 1);
        is("29 it is none", x.reserve(0, 0), NONE);
        is("29 still none", x.setReserve(0, 0, 0), 0);
        is("29 one minute", x.setReserve(0, 5999, 6000), 0);
        for (int wrong : new int[] {-1, 2, LOW, HIGH}) {
            is("29 crew " + wrong, x.setReserve(wrong, 0, 1), BAD);
        }
        for (int wrong : new int[] {-1, 6000, LOW, HIGH}) {
            is("29 start " + wrong, x.setReserve(1, wrong, 6000), BAD);
            is("29 start and end " + wrong, x.setReserve(1, wrong, wrong), BAD);
        }
        for (int wrong : new int[] {99, -1, 6001, LOW, HIGH}) {
            is("29 end " + wrong, x.setReserve(1, 100, wrong), BAD);
        }
        is("29 unchanged", x.reserve(1, 0), NONE);
        x.fly(0, 0);
        is("29 with a row", x.setReserve(0, 1, 2), 1);
        is("29 which stays", x.itemCount(0), 1);
    }

    private static void promise30Reserve() {
        CrewPairer x = shuttle(2);
        is("30 none", x.reserve(0, 0), NONE);
        x.setReserve(1, 17, 1234);
        is("30 start", x.reserve(1, 0), 17);
        is("30 end", x.reserve(1, 1), 1234);
        is("30 the other one is none", x.reserve(0, 1), NONE);
        for (int wrong : new int[] {-1, 2, LOW, HIGH}) {
            is("30 crew " + wrong, x.reserve(wrong, 0), BAD);
            is("30 what " + wrong, x.reserve(1, wrong), BAD);
            is("30 BAD before NONE", x.reserve(0, wrong), BAD);
        }
    }

    private static void promise31Called() {
        CrewPairer x = shuttle(4);
        is("31 no reserve", x.called(0), NONE);
        x.setReserve(1, 361, 6000);
        is("31 119 minutes after the start", x.called(0), NONE);
        x.setReserve(1, 360, 6000);
        is("31 120 minutes after the start", x.called(0), 1);
        x.setReserve(1, 0, 539);
        is("31 it arrives too late", x.called(0), NONE);
        x.setReserve(1, 0, 540);
        is("31 it arrives at the end", x.called(0), 1);
        is("31 it cannot fly it", x.called(1), NONE);
        x.setReserve(3, 0, 6000);
        is("31 the lowest one", x.called(0), 1);
        x.addLeg(0, 2, 120, 130);
        x.fly(1, 4);
        x.addLeg(2, 0, 200, 210);
        x.fly(1, 5);
        is("31 the least minutes", x.called(0), 3);
        x.cancel(2);
        is("31 cancelled", x.called(2), NONE);
        x.fly(0, 0);
        is("31 covered", x.called(0), NONE);
        for (int wrong : new int[] {-1, 6, LOW, HIGH}) {
            is("31 leg " + wrong, x.called(wrong), BAD);
        }
        is("31 it takes nothing", x.itemCount(3), 0);
    }

    private static void promise32Pair() {
        CrewPairer x = shuttle(2);
        is("32 all by one crew would be possible", x.pair(), 4);
        CHECK.is("32 the least minutes, then the lowest one", row(x, 0) + "," + row(x, 1), "f0 f1,f2 f3");
        is("32 nothing is open", x.pair(), 0);
        CrewPairer y = shuttle(1);
        y.setReserve(0, 0, 6000);
        is("32 a reserve is not paired", y.pair(), 0);
        y.addCrew(1);
        is("32 the crew at 1 cannot fly leg 0", y.pair(), 3);
        CHECK.is("32 rows", row(y, 0) + "," + row(y, 1), ",f1 f2 f3");
        CrewPairer z = shuttle(1);
        z.addCrew(1);
        z.cancel(2);
        is("32 not the cancelled leg", z.pair(), 3);
        CHECK.is("32 rows", row(z, 0) + "," + row(z, 1), "f0 f3,f1");
        CrewPairer w = new CrewPairer();
        w.addCrew(1);
        w.addLeg(0, 1, 600, 700);
        w.addLeg(1, 0, 400, 500);
        w.addLeg(2, 1, 230, 350);
        w.addLeg(1, 2, 100, 200);
        is("32 in the order by departure", w.pair(), 4);
        CHECK.is("32 row", row(w, 0), "f3 f2 f1 f0");
        CrewPairer v = new CrewPairer();
        v.addCrew(0);
        v.setRule(3, 120);
        v.addLeg(0, 1, 100, 300);
        v.addLeg(1, 0, 400, 460);
        is("32 a leg that is too long to be flown, but not to ride on", v.pair(), 1);
        CHECK.is("32 row", row(v, 0), "r0 f1");
        CHECK.is("32 the leg stays open", open(v), "0");
    }

    private static void promise33Offer() {
        CrewPairer x = new CrewPairer();
        x.addCrew(0);
        x.addCrew(3);
        x.addLeg(0, 1, 100, 160);
        x.addLeg(1, 2, 300, 360);
        x.addLeg(0, 1, 120, 170);
        CHECK.is("33 fly", offer(x, 0), "0 -2 0");
        CHECK.is("33 ride on the shorter one", offer(x, 1), "0 2 500");
        x.setRule(6, 0);
        CHECK.is("33 free rides: the lowest leg", offer(x, 1), "0 0 0");
        x.cancel(0);
        CHECK.is("33 not on a cancelled leg", offer(x, 1), "0 2 0");
        x.setReserve(0, 0, 6000);
        CHECK.is("33 a reserve offers nothing", offer(x, 1), "-2 -2 -2");
        x.setReserve(0, 0, 0);
        x.setRule(0, 120);
        x.delay(1, -11);
        CHECK.is("33 the connection is too short", offer(x, 1), "-2 -2 -2");
        x.delay(1, 1);
        CHECK.is("33 it is enough", offer(x, 1), "0 2 0");
        x.fly(0, 2);
        CHECK.is("33 it is there already", offer(x, 1), "0 -2 0");
        is("33 covered", x.offer(2, 0), NONE);
        is("33 cancelled", x.offer(0, 0), NONE);
        for (int wrong : new int[] {-1, 3, LOW, HIGH}) {
            is("33 leg " + wrong, x.offer(wrong, 0), BAD);
            is("33 what " + wrong, x.offer(1, wrong), BAD);
            is("33 BAD before NONE", x.offer(2, wrong), BAD);
        }
        CHECK.is("33 it takes nothing", row(x, 0), "f2");
    }

    private static void promise33OfferOrder() {
        CrewPairer x = new CrewPairer();
        x.addCrew(0);
        x.addCrew(0);
        x.addCrew(2);
        x.addLeg(0, 1, 100, 160);
        x.addLeg(1, 0, 200, 260);
        x.addLeg(0, 2, 400, 460);
        x.addLeg(2, 0, 330, 331);
        x.fly(0, 0);
        x.fly(0, 1);
        CHECK.is("33 the least minutes", offer(x, 2), "1 -2 0");
        x.setRule(6, 0);
        CHECK.is("33 a ride for nothing, but crew 1 first", offer(x, 2), "1 -2 0");
        x.setReserve(1, 0, 6000);
        CHECK.is("33 crew 2 has less minutes than crew 0", offer(x, 2), "2 3 0");
        x.setRule(6, 1);
        CHECK.is("33 the price counts more than the minutes", offer(x, 2), "0 -2 0");
        x.drop(0, 1);
        CHECK.is("33 a covered leg to ride on", offer(x, 2), "2 3 1");
        x.setReserve(2, 0, 6000);
        CHECK.is("33 crew 0 rides home", offer(x, 2), "0 1 60");
        x.delay(1, 200);
        CHECK.is("33 the other leg departs at the same time", offer(x, 2), "-2 -2 -2");
        CrewPairer y = new CrewPairer();
        y.addCrew(0);
        y.addLeg(0, 1, 100, 160);
        y.addLeg(1, 0, 200, 260);
        y.addLeg(1, 0, 210, 270);
        y.addLeg(0, 1, 350, 360);
        y.fly(0, 0);
        y.setRule(4, 2);
        CHECK.is("33 no third item in the duty", offer(y, 3), "-2 -2 -2");
        y.setRule(4, 3);
        CHECK.is("33 of equal rides the lowest one", offer(y, 3), "0 1 600");
        is("33 but legs 1 and 2 are open, and leg 1 comes first", y.pair(), 2);
        CHECK.is("33 so leg 3 needs no ride, and leg 2 stays open", row(y, 0), "f0 f1 f3");
        CrewPairer z = new CrewPairer();
        z.addCrew(0);
        z.setReserve(0, 0, 6000);
        z.addCrew(0);
        z.addLeg(0, 1, 100, 160);
        z.addLeg(1, 2, 300, 360);
        z.fly(0, 0);
        CHECK.is("33 on a leg that a reserve covers", offer(z, 1), "1 0 600");
        is("33 pair by a ride", z.pair(), 1);
        CHECK.is("33 the crew rides and flies", row(z, 1), "r0 f1");
        is("33 the reserve still covers it", z.leg(0, 5), 0);
    }

    private static void promise34Repair() {
        CrewPairer x = shuttle(3);
        is("34 nothing to repair", x.repair(), 0);
        for (int leg = 0; leg < 4; leg++) {
            x.fly(0, leg);
            x.ride(1, leg);
        }
        x.delay(0, 45);
        is("34 leg 1, then legs 2 and 3 in both rows", x.repair(), 4);
        CHECK.is("34 in the order of removal", repaired(x), "0f1:-2 0f2:-2 1r1:-2 1r2:-2");
        CHECK.is("34 what is left", row(x, 0) + "," + row(x, 1), "f0 f3,r0 r3");
        is("34 no violations", x.violationCount(0) + x.violationCount(1), 0);
        is("34 again", x.repair(), 0);
        CHECK.is("34 nothing was repaired", repaired(x), "");
        CHECK.is("34 nobody is called for what was open before", open(x), "1 2");
        CrewPairer y = wide();
        y.addCrew(0);
        for (int i = 0; i < 8; i++) {
            y.addLeg(i % 2, 1 - i % 2, 120 * i, 120 * i + 60);
            y.fly(0, i);
        }
        y.cancel(0);
        is("34 one item, then the row begins at the base", y.repair(), 1);
        CHECK.is("34 row", row(y, 0), "f2 f3 f4 f5 f6 f7");
        y.setRule(4, 1);
        is("34 the first item of a duty that is too large, then one that is not connected", y.repair(), 6);
        CHECK.is("34 order", repaired(y), "0f2:-2 0f3:-2 0f4:-2 0f5:-2 0f6:-2 0f7:-2");
        is("34 the row is empty", y.itemCount(0), 0);
    }

    private static void promise34RepairReserves() {
        CrewPairer x = shuttle(3);
        for (int leg = 0; leg < 4; leg++) {
            x.fly(0, leg);
        }
        x.setReserve(1, 0, 6000);
        x.setReserve(2, 500, 6000);
        x.delay(0, 45);
        is("34 repair", x.repair(), 2);
        CHECK.is("34 nobody at 1; the lowest reserve at 0", repaired(x), "0f1:-2 0f2:1");
        CHECK.is("34 rows", row(x, 0) + "," + row(x, 1) + "," + row(x, 2), "f0 f3,f2,");
        x.delay(2, 40);
        is("34 a reserve's row is fine", x.repair(), 0);
        x.cancel(3);
        x.addLeg(1, 0, 2000, 2100);
        x.addLeg(0, 1, 1900, 1950);
        x.fly(1, 4);
        x.drop(1, 2);
        is("34 a reserve is repaired, too", x.repair(), 1);
        CHECK.is("34 crew 1 cannot fly it then", repaired(x), "1f4:-2");
        CrewPairer y = new CrewPairer();
        y.addCrew(0);
        y.addCrew(0);
        y.addLeg(0, 1, 200, 260);
        y.addLeg(1, 0, 300, 360);
        y.fly(0, 0);
        y.fly(0, 1);
        y.setReserve(1, 0, 6000);
        y.setReserve(0, 0, 6000);
        y.setRule(4, 1);
        is("34 the first one goes, and the other one is not connected then", y.repair(), 2);
        CHECK.is("34 the crew that lost it is called for it", repaired(y), "0f0:0 0f1:-2");
        CHECK.is("34 rows", row(y, 0) + "," + row(y, 1), "f0,");
        CrewPairer z = shuttle(3);
        z.addLeg(0, 2, 100, 150);
        z.addLeg(2, 0, 200, 250);
        z.addLeg(0, 1, 300, 360);
        for (int leg = 0; leg < 3; leg++) {
            z.fly(0, leg);
            z.fly(1, leg + 4);
        }
        z.cancel(1);
        z.cancel(5);
        z.setReserve(2, 0, 6000);
        is("34 a leg of each crew", z.repair(), 2);
        CHECK.is("34 the reserve is called for the earlier one, removed later", repaired(z), "0f2:-2 1f6:2");
        CHECK.is("34 rows", row(z, 0) + "," + row(z, 1) + "," + row(z, 2), "f0,f4,f6");
    }

    private static void promise35Repaired() {
        CrewPairer x = shuttle(3);
        is("35 no repair", x.repaired(0, 0), NONE);
        for (int leg = 0; leg < 3; leg++) {
            x.fly(0, leg);
        }
        x.ride(1, 0);
        x.ride(1, 1);
        x.setReserve(2, 0, 6000);
        x.cancel(1);
        x.repair();
        CHECK.is("35 order", repaired(x), "0f2:2");
        int[] due = {0, 2, 1, 2};
        for (int what = 0; what < 4; what++) {
            is("35 what " + what, x.repaired(0, what), due[what]);
        }
        for (int wrong : new int[] {-1, 4, LOW, HIGH}) {
            is("35 what " + wrong, x.repaired(0, wrong), BAD);
            is("35 BAD before NONE", x.repaired(1, wrong), BAD);
        }
        for (int wrong : new int[] {-1, 1, LOW, HIGH}) {
            is("35 position " + wrong, x.repaired(wrong, 0), NONE);
        }
        x.undo();
        CHECK.is("35 undo does not affect it", repaired(x), "0f2:2");
        x.addCrew(0);
        x.save();
        x.restore();
        x.delay(2, 5);
        x.cancel(2);
        CHECK.is("35 nor does anything else", repaired(x), "0f2:2");
        x.undo();
        CHECK.is("35 the row before", row(x, 0), "f0 f2");
        is("35 a repair that removes nothing, in a text that fails", run(x, "drop 0 0;repair;crew 9"), -302);
        CHECK.is("35 the list is empty", repaired(x), "");
        is("35 a repair that removes something, in a text that fails", run(x, "crew 0;repair;crew 9"), -302);
        CHECK.is("35 it counts", repaired(x), "0f2:2");
        CHECK.is("35 the rows are as before", row(x, 0) + "," + row(x, 1) + "," + row(x, 2), "f0 f2,r0,");
        is("35 a repair behind a failing command is not made", run(x, "drop 0 2;fly 0 0;repair"), -301);
        CHECK.is("35 so the list is the same", repaired(x), "0f2:2");
        is("35 nor one in a wrong text", run(x, "drop 0 2;repair;x"), -216);
        CHECK.is("35 so the list is the same", repaired(x), "0f2:2");
        is("35 a repair in a text that does not fail", run(x, "drop 0 2;repair"), 2);
        CHECK.is("35 the list is empty", repaired(x), "");
        CHECK.is("35 row", row(x, 0), "f0");
        CrewPairer y = shuttle(2);
        y.ride(0, 0);
        y.ride(0, 1);
        y.setReserve(1, 0, 6000);
        y.delay(0, 60);
        y.repair();
        CHECK.is("35 no reserve for a deadhead", repaired(y), "0r1:-2");
        is("35 it was a deadhead", y.repaired(0, 2), 0);
    }

    private static void promise36BestMinutes() {
        CrewPairer x = shuttle(1);
        x.addCrew(2);
        is("36 all four", x.bestMinutes(0), 240);
        is("36 none at 2", x.bestMinutes(1), NONE);
        x.cancel(1);
        is("36 one there, one back", x.bestMinutes(0), 120);
        x.cancel(3);
        is("36 no way back", x.bestMinutes(0), NONE);
        for (int wrong : new int[] {-1, 2, LOW, HIGH}) {
            is("36 crew " + wrong, x.bestMinutes(wrong), BAD);
        }
        CrewPairer y = shuttle(2);
        y.fly(0, 0);
        CHECK.is("36 behind a row that is away", best(y, 0), "180 1 2 3");
        CHECK.is("36 what is covered is not there for the other crew", best(y, 1), "120 2 3");
        y.setReserve(1, 0, 6000);
        CHECK.is("36 also of a reserve", best(y, 1), "120 2 3");
        y.setRule(0, 120);
        CHECK.is("36 the connection", best(y, 0), "60 3");
        y.setRule(0, 60);
        CHECK.is("36 the connection", best(y, 0), "180 1 2 3");
        y.drop(0, 0);
        y.ride(0, 0);
        CHECK.is("36 what is ridden is not flown again", best(y, 0), "180 1 2 3");
        CHECK.is("36 but another crew can fly it", best(y, 1), "240 0 1 2 3");
        y.fly(1, 2);
        y.drop(1, 2);
        y.drop(0, 0);
        y.addLeg(0, 1, 960, 1000);
        y.addLeg(1, 0, 1100, 1130);
        y.fly(0, 4);
        y.fly(0, 5);
        CHECK.is("36 nothing that departs before the row ends", best(y, 0), "-2");
    }

    private static void promise36BestLimits() {
        CrewPairer x = wide();
        x.addCrew(0);
        x.addCrew(0);
        for (int i = 0; i < 8; i++) {
            x.addLeg(i % 2, 1 - i % 2, 100 * i, 100 * i + 50 + i % 2 + i / 2 * 2);
        }
        CHECK.is("36 at most 6 legs: the longest ones", best(x, 0), "327 2 3 4 5 6 7");
        x.setRule(4, 4);
        CHECK.is("36 at most 4 legs in a duty", best(x, 0), "222 4 5 6 7");
        x.setRule(4, 8);
        x.setRule(3, 220);
        CHECK.is("36 the flight rule", best(x, 0), "220 2 5 6 7");
        x.setRule(3, 219);
        CHECK.is("36 a minute less", best(x, 0), "218 0 5 6 7");
        x.setRule(3, 720);
        x.setRule(5, 222);
        CHECK.is("36 the window rule", best(x, 0), "222 4 5 6 7");
        x.setRule(5, 221);
        CHECK.is("36 a minute less", best(x, 0), "220 2 5 6 7");
        x.setRule(5, 1200);
        x.setRule(2, 300);
        CHECK.is("36 the duty rule", best(x, 0), "113 6 7");
        x.setRule(2, 960);
        x.fly(0, 0);
        x.fly(0, 1);
        x.drop(0, 0);
        CHECK.is("36 a row with violations", best(x, 0), "-2");
        CrewPairer y = wide();
        y.addCrew(0);
        y.addLeg(0, 1, 100, 150);
        y.addLeg(1, 0, 200, 250);
        y.addLeg(0, 2, 100, 150);
        y.addLeg(2, 0, 200, 250);
        y.addLeg(0, 1, 500, 530);
        y.addLeg(1, 0, 600, 620);
        CHECK.is("36 the first of two that are equal", best(y, 0), "150 0 1 4 5");
        y.cancel(4);
        CHECK.is("36 the lexicographically first one", best(y, 0), "100 0 1");
        y.addLeg(3, 0, 300, 301);
        y.addLeg(0, 3, 10, 109);
        CHECK.is("36 the fewest legs", best(y, 0), "100 0 1");
        CrewPairer z = wide();
        z.addCrew(0);
        z.addLeg(0, 1, 0, 25);
        z.addLeg(1, 0, 100, 125);
        z.addLeg(0, 1, 200, 225);
        z.addLeg(1, 0, 300, 325);
        z.addLeg(0, 2, 0, 50);
        z.addLeg(2, 0, 300, 350);
        CHECK.is("36 of equal sums the fewest legs, though another one is lexicographically before", best(z, 0), "100 4 5");
        z.cancel(5);
        z.addLeg(2, 0, 0, 600);
        CHECK.is("36 each departs later than the item before", best(z, 0), "100 0 1 2 3");
        CrewPairer w = wide();
        w.addCrew(0);
        int[] airports = {0, 1, 2, 0, 1, 0, 1, 0};
        for (int i = 0; i < 7; i++) {
            w.addLeg(airports[i], airports[i + 1], 120 * i, 120 * i + 60);
        }
        CHECK.is("36 all seven would be home", best(w, 0), "300 0 1 2 3 4");
    }

    private static void promise37BestLeg() {
        CrewPairer x = new CrewPairer();
        x.addCrew(0);
        x.addLeg(1, 0, 600, 660);
        x.addLeg(0, 1, 480, 540);
        is("37 the number", x.bestLeg(0, -1), 2);
        is("37 the first", x.bestLeg(0, 0), 1);
        is("37 the second", x.bestLeg(0, 1), 0);
        for (int wrong : new int[] {-2, 2, 6, LOW, HIGH}) {
            is("37 position " + wrong, x.bestLeg(0, wrong), NONE);
        }
        for (int wrong : new int[] {-1, 1, LOW, HIGH}) {
            is("37 crew " + wrong, x.bestLeg(wrong, 0), BAD);
        }
        x.cancel(0);
        is("37 none", x.bestLeg(0, 0), NONE);
        is("37 no number either", x.bestLeg(0, -1), NONE);
        is("37 it takes nothing", x.itemCount(0), 0);
    }

    private static void promise38TakeBest() {
        CrewPairer x = shuttle(2);
        is("38 four legs", x.takeBest(0), 4);
        CHECK.is("38 flown", row(x, 0), "f0 f1 f2 f3");
        is("38 no more", x.takeBest(0), NONE);
        is("38 nor for the other crew", x.takeBest(1), NONE);
        for (int wrong : new int[] {-1, 2, LOW, HIGH}) {
            is("38 crew " + wrong, x.takeBest(wrong), BAD);
        }
        x.undo();
        CHECK.is("38 one change", row(x, 0), "");
        x.ride(0, 0);
        x.setReserve(0, 0, 100);
        is("38 behind the row, also of a reserve", x.takeBest(0), 3);
        CHECK.is("38 flown", row(x, 0), "r0 f1 f2 f3");
        is("38 home", x.home(0), 1);
    }

    private static void promise39Letter() {
        CrewPairer x = new CrewPairer();
        x.addCrew(2);
        x.addCrew(0);
        x.addLeg(2, 5, 9, 69);
        x.addLeg(5, 2, 1439, 1440);
        x.addLeg(2, 0, 5399, 5999);
        CHECK.is("39 empty row", text(x, 0), "");
        is("39 length of an empty row", x.letter(0, -1), 0);
        is("39 no position", x.letter(0, 0), NONE);
        x.fly(0, 0);
        CHECK.is("39 an item", text(x, 0), "2>5 d0h0009-d0h0109 fly;");
        x.ride(0, 1);
        x.ride(0, 2);
        CHECK.is("39 three items", text(x, 0),
                "2>5 d0h0009-d0h0109 fly;5>2 d0h2359-d1h0000 ride;2>0 d3h1759-d4h0359 ride;");
        is("39 length", x.letter(0, -1), 74);
        is("39 the last one", x.letter(0, 73), ';');
        for (int wrong : new int[] {-2, 74, 600, LOW, HIGH}) {
            is("39 position " + wrong, x.letter(0, wrong), NONE);
        }
        for (int wrong : new int[] {-1, 2, LOW, HIGH}) {
            is("39 crew " + wrong, x.letter(wrong, 0), BAD);
        }
        is("39 the other crew", x.letter(1, -1), 0);
        CrewPairer y = wide();
        y.addCrew(0);
        y.setRule(1, 300);
        for (int i = 0; i < 24; i++) {
            y.addLeg(i % 2, 1 - i % 2, 60 * i + 400 * (i / 8), 60 * i + 400 * (i / 8) + 20);
            y.ride(0, i);
        }
        is("39 a row of all legs", y.itemCount(0), 24);
        is("39 the longest text", y.letter(0, -1), 600);
        is("39 its last letter", y.letter(0, 599), ';');
        is("39 no position", y.letter(0, 600), NONE);
    }

    private static void promise40Feed() {
        CrewPairer x = new CrewPairer();
        for (int wrong : new int[] {-1, 0, 31, 127, LOW, HIGH}) {
            is("40 letter " + wrong, x.feed(wrong), BAD);
        }
        is("40 32", x.feed(32), 1);
        is("40 126", x.feed(126), 2);
        for (int i = 3; i <= 60; i++) {
            is("40 letter " + i, x.feed('a'), i);
        }
        is("40 full", x.feed('a'), FULL);
        is("40 BAD before FULL", x.feed(31), BAD);
        is("40 the text is wrong", x.execute(), -200);
        is("40 empty again", x.feed('a'), 1);
        x.addCrew(0);
        is("40 no change", x.undo(), 0);
        is("40 undo does not affect it", x.feed('a'), 2);
        x.save();
        x.restore();
        is("40 nor does restore", x.feed('a'), 3);
        String full = "crew 1;crew 2;crew 3;leg 0 1 0009 0010;rule 0 10;repair;pair";
        is("40 the length of a full text", full.length(), 60);
        x.execute();
        is("40 a full text", run(x, full), 7);
    }

    private static void promise41Execute() {
        CrewPairer x = new CrewPairer();
        is("41 leg", run(x, "leg 0 1 480 540;leg 1 0 600 0660;crew 0;crew 00"), 4);
        is("41 legs", x.legCount(), 2);
        is("41 crews", x.crewCount(), 2);
        is("41 fly, ride", run(x, "fly 0 0;ride 1 0;ride 0 1"), 3);
        CHECK.is("41 rows", row(x, 0) + "," + row(x, 1), "f0 r1,r0");
        is("41 drop", run(x, "drop 0 1;fly 0 1"), 2);
        is("41 late", run(x, "late 1 40"), 1);
        is("41 late", x.leg(1, 2), 640);
        is("41 rule", run(x, "rule 4 8;rule 0 120;repair"), 3);
        CHECK.is("41 repair", row(x, 0), "f0");
        is("41 rules", x.rule(4) + x.rule(0), 128);
        is("41 rule", run(x, "rule 0 10;pair"), 2);
        CHECK.is("41 pair", row(x, 0) + "," + row(x, 1), "f0,r0 f1");
        is("41 cancel", run(x, "cancel 1"), 1);
        is("41 cancel", x.leg(1, 4), 1);
        is("41 twelve commands", run(x, "pair;pair;pair;pair;pair;pair;pair;pair;pair;pair;pair;pair"), 12);
        is("41 the buffer is empty", x.execute(), -200);
        is("41 one change each", x.undo(), 7);
        is("41 the cancelling", x.leg(1, 4), 1);
        x.undo();
        is("41 undone", x.leg(1, 4), 0);
    }

    private static void promise41ExecuteErrors() {
        Object[][] texts = {
            {"", 0}, {"pair;", 5}, {";", 0}, {";pair", 0}, {"pair;;pair", 5}, {" pair", 0}, {"pair ", 4}, {"pair ;pair", 4},
            {"pair; pair", 5}, {"pai", 0}, {"p", 0}, {"pairs", 0}, {"pairz", 0}, {"paira", 0}, {"pair;xyz", 5}, {"pair;fl", 5}, {"Pair", 0}, {"paiR", 0},
            {"pairR", 4}, {"pair1", 4}, {"crew", 4}, {"crew ", 5}, {"crew  1", 5}, {"crew x", 5}, {"crew 1x", 6}, {"crew 1 ", 6},
            {"crew 1 1", 6}, {"crew1", 4}, {"crew;", 4}, {"crew 12345", 9}, {"crew -1", 5}, {"fly 0", 5}, {"fly 0 ", 6},
            {"fly 0;1", 5}, {"fly 0,1", 5}, {"fly 0000 0000 ", 13}, {"fly 00000 0", 8}, {"leg 0 1 2", 9}, {"leg 0 1 2 ", 10},
            {"leg 0 1 2 34567", 14}, {"leg 0 1 2 3 4", 11}, {"drop 1 a", 7}, {"late 1 -1", 7}, {"cancel", 6}, {"cancel 1;c", 9},
            {"rule 1", 6}, {"rule 1 1;", 9}, {"repair;repai", 7}, {"repairpair", 0}, {"repair pair", 6}, {"ride 0\u007e", 6},
            {"legs 0 1 2 3", 0}, {"leg 0 1 2 3leg", 11}, {"1", 0}, {"pair;1", 5}, {"undo", 0}, {"save", 0}, {"crew 1:", 6},
            {"crew 1/", 6}, {"crew /", 5}, {"crew :", 5}, {"pair`", 4}, {"pair{", 4},
        };
        for (Object[] each : texts) {
            CrewPairer x = new CrewPairer();
            is("41 \"" + each[0] + "\"", run(x, (String) each[0]), -200 - (Integer) each[1]);
            is("41 the buffer is empty after \"" + each[0] + "\"", x.feed('x'), 1);
            is("41 no change by \"" + each[0] + "\"", x.undo(), NONE);
        }
        CrewPairer x = new CrewPairer();
        is("41 nothing of a wrong text is done", run(x, "crew 0;crew 0;x"), -214);
        is("41 no crews", x.crewCount(), 0);
    }

    private static void promise41ExecuteEffects() {
        CrewPairer x = shuttle(1);
        x.fly(0, 0);
        is("41 the first one fails", run(x, "crew 6;crew 0"), -300);
        is("41 the third one fails", run(x, "crew 0;rule 0 10;crew 6;crew 0"), -302);
        is("41 no crew", x.crewCount(), 1);
        is("41 no rule", x.rule(0), 30);
        is("41 reason 9 fails", run(x, "fly 0 1;fly 0 1"), -301);
        CHECK.is("41 no leg", row(x, 0), "f0");
        is("41 cancel", run(x, "cancel 0;cancel 0"), -301);
        is("41 not cancelled", x.leg(0, 4), 0);
        CHECK.is("41 still in the row", row(x, 0), "f0");
        is("41 late", run(x, "late 0 100;late 0 601"), -301);
        is("41 not late", x.leg(0, 2), 480);
        is("41 drop", run(x, "drop 0 0;drop 0 0"), -301);
        CHECK.is("41 still in the row", row(x, 0), "f0");
        is("41 legs", run(x, "leg 3 4 5 6;leg 3 4 5 6"), -301);
        is("41 no legs", x.legCount(), 4);
        is("41 pair", run(x, "pair;ride 9 9"), -301);
        CHECK.is("41 not paired", row(x, 0), "f0");
        is("41 the order of the open legs is as before", run(x, "late 1 300;rule 9 9"), -301);
        CHECK.is("41 the order of the open legs is as before", open(x), "1 2 3");
        is("41 no change", x.undo(), 5);
        CHECK.is("41 the flying is undone", row(x, 0), "");
        is("41 one change", run(x, "fly 0 0;fly 0 1"), 2);
        is("41 one change", x.undo(), 5);
        CHECK.is("41 both are undone", row(x, 0), "");
    }

    private static void promise42Save() {
        CrewPairer x = new CrewPairer();
        is("42 nothing", x.save(), 0);
        x.addLeg(0, 1, 0, 60);
        is("42 one leg", x.save(), 1);
        is("42 no change", x.undo(), 0);
        is("42 not undone", x.restore(), 1);
        x.addLeg(0, 2, 0, 60);
        x.cancel(0);
        is("42 a cancelled leg counts", x.save(), 2);
        x.addLeg(0, 3, 0, 60);
        is("42 in place of the earlier one", x.restore(), 2);
        is("42 legs", x.legCount(), 2);
    }

    private static void promise43Restore() {
        CrewPairer x = shuttle(2);
        is("43 no snapshot", x.restore(), NONE);
        is("43 no change", x.undo(), 5);
        x.addCrew(0);
        x.fly(0, 0);
        x.setReserve(1, 5, 50);
        x.setRule(0, 40);
        x.cancel(3);
        x.save();
        x.undo();
        x.undo();
        x.undo();
        x.undo();
        x.addLeg(3, 4, 0, 9);
        x.addCrew(5);
        x.delay(1, 13);
        is("43 restore", x.restore(), 4);
        is("43 legs", x.legCount(), 4);
        is("43 crews", x.crewCount(), 2);
        CHECK.is("43 row", row(x, 0), "f0");
        is("43 reserve", x.reserve(1, 1), 50);
        is("43 rule", x.rule(0), 40);
        is("43 cancelled", x.leg(3, 4), 1);
        is("43 departure", x.leg(1, 2), 600);
        CHECK.is("43 open legs", open(x), "1 2");
        is("43 one change", x.undo() >= 0 ? 1 : 0, 1);
        is("43 undone", x.legCount(), 5);
        is("43 crews are back", x.crewCount(), 3);
        x.setRule(7, 1);
        is("43 it is kept", x.restore(), 4);
        x.fly(0, 1);
        is("43 it is kept as it was", x.restore(), 4);
        CHECK.is("43 row", row(x, 0), "f0");
        is("43 rule", x.rule(7), 500);
    }

    private static void promise44Undo() {
        CrewPairer x = new CrewPairer();
        is("44 nothing", x.undo(), NONE);
        x.addCrew(9);
        is("44 an error is no change", x.undo(), NONE);
        for (int i = 0; i < 12; i++) {
            x.addLeg(0, 1, i, 100);
        }
        for (int i = 7; i >= 0; i--) {
            is("44 undo", x.undo(), i);
            is("44 legs", x.legCount(), 4 + i);
        }
        is("44 older ones are forgotten", x.undo(), NONE);
        is("44 legs", x.legCount(), 4);
        x.addCrew(3);
        x.addCrew(4);
        is("44 undo", x.undo(), 1);
        x.addCrew(5);
        is("44 one that was undone is gone", x.undo(), 1);
        is("44 the one before", x.undo(), 0);
        is("44 crews", x.crewCount(), 0);
        is("44 forgotten for good", x.undo(), NONE);
        is("44 legs", x.legCount(), 4);
        for (int i = 0; i < 9; i++) {
            x.setRule(7, i);
        }
        x.undo();
        x.undo();
        x.setRule(6, 1);
        is("44 eight at most", x.undo(), 6);
        is("44 rule", x.rule(7), 6);
        is("44 rule", x.rule(6), 10);
    }

    private static void promise44UndoOfEachChange() {
        String[] names = {"addLeg", "addCrew", "fly", "ride", "drop", "delay", "cancel", "setRule", "setReserve", "pair",
            "repair", "takeBest", "execute", "restore", "setRule to the same value", "a delay of 0", "no reserve again"};
        for (int i = 0; i < names.length; i++) {
            CrewPairer x = shuttle(3);
            x.save();
            x.fly(0, 0);
            String before = state(x);
            for (int j = 0; j < 9; j++) {
                x.setRule(7, 500);
            }
            is("44 " + names[i], change(x, i) >= 0 ? 1 : 0, 1);
            is("44 undo of " + names[i], x.undo(), 7);
            CHECK.is("44 undo of " + names[i], state(x), before);
            for (int j = 6; j >= 0; j--) {
                is("44 undo", x.undo(), j);
            }
            is("44 no more", x.undo(), NONE);
            CHECK.is("44 the flying is forgotten for good", row(x, 0), "f0");
        }
        for (int i = 0; i < 14; i++) {
            CrewPairer x = shuttle(3);
            x.fly(0, 0);
            is("44 an error of " + names[i] + " is no change", refused(x, i) < 0 ? 1 : 0, 1);
            x.undo();
            CHECK.is("44 undo behind an error of " + names[i], row(x, 0), "");
        }
    }

    /** Calls that return an error code; pair and repair return none. */
    private static int refused(CrewPairer x, int change) {
        switch (change) {
            case 0: return x.addLeg(0, 1, 480, 9);
            case 1: return x.addCrew(7);
            case 2: return x.fly(0, 0);
            case 3: return x.ride(0, 2);
            case 4: return x.drop(0, 1);
            case 5: return x.delay(0, -481);
            case 6: return x.cancel(4);
            case 7: return x.setRule(0, 9);
            case 8: return x.setReserve(0, 4, 3);
            case 11: return x.takeBest(9);
            case 12: return run(x, "fly 0 1;ride 1 1");
            case 13: return x.restore();
            default: return NONE;
        }
    }

    private static int change(CrewPairer x, int change) {
        switch (change) {
            case 0: return x.addLeg(0, 5, 0, 9);
            case 1: return x.addCrew(2);
            case 2: return x.fly(0, 1);
            case 3: return x.ride(0, 1);
            case 4: return x.drop(0, 0);
            case 5: return x.delay(0, 300);
            case 6: return x.cancel(0);
            case 7: return x.setRule(0, 31);
            case 8: return x.setReserve(0, 3, 4);
            case 9: return x.pair();
            case 10: return x.repair();
            case 11: return x.takeBest(0);
            case 12: return run(x, "fly 0 1;ride 1 0");
            case 13: return x.restore();
            case 14: return x.setRule(7, 500);
            case 15: return x.delay(1, 0);
            default: return x.setReserve(0, 0, 0);
        }
    }

    private static String state(CrewPairer x) {
        StringBuilder text = new StringBuilder();
        for (int leg = 0; leg < x.legCount(); leg++) {
            text.append(x.leg(leg, 2)).append(' ').append(x.leg(leg, 4)).append(' ').append(x.leg(leg, 5)).append(',');
        }
        for (int crew = 0; crew < x.crewCount(); crew++) {
            text.append(row(x, crew)).append(' ').append(x.reserve(crew, 0)).append(',');
        }
        return text.append(x.rule(0)).append(',').append(open(x)).toString();
    }
}
