import java.util.ArrayList;
import java.util.List;
import java.util.function.Consumer;
import java.util.function.Supplier;
import java.util.function.ToIntFunction;

/**
 * Shows that a refused call changes nothing: whatever is asked behind it, at once, after undoing, restoring or
 * executing, is answered as if it had not been made. Each question gets an object of its own, so that none of
 * them hides another one and no object gets more than 512 calls.
 */
abstract class Refusals extends Asking {
    /** The texts in the buffers; both are right. */
    static final String SHORT_TEXT = "pair";
    static final String FULL_TEXT = "rule 7 0009;rule 7 0009;rule 7 0009;rule 7 0009;late 23 0000";

    enum Begin {
        /** Nothing there yet. */
        EMPTY,
        /** A bit of everything: violations, a cancelled leg, a reserve, a repair, a snapshot, a text. */
        SOME,
        /** Everything full: 24 legs, all flown by crew 0, 6 crews, 8 changes to undo, 60 characters; no snapshot. */
        FULLEST;

        private int[] answers;

        CrewPairer make() {
            return this == EMPTY ? new CrewPairer() : this == SOME ? some() : fullest();
        }

        private int[] answers() {
            if (answers == null) {
                answers = Refusals.answers(this::make);
            }
            return answers;
        }
    }

    private record Question(String name, ToIntFunction<CrewPairer> call) { }

    private static final List<Question> QUESTIONS = questions();

    /**
     * Row 0 is "f1", which does not depart from the base, row 1 "r0", row 2, of the reserve, "f2"; leg 6 is
     * cancelled; 0, 3, 4 and 5 are open; 8 changes can be undone; the snapshot is from before the cancelling.
     */
    static CrewPairer some() {
        CrewPairer x = shuttle(3);
        x.addLeg(0, 2, 2000, 2100);
        x.addLeg(2, 0, 2200, 2300);
        x.addLeg(3, 4, 3000, 3100);
        x.fly(0, 0);
        x.fly(0, 1);
        x.fly(0, 2);
        x.ride(1, 0);
        x.save();
        x.cancel(6);
        x.setReserve(2, 0, 6000);
        x.delay(1, 90);
        x.repair();
        x.drop(0, 0);
        x.setRule(0, 45);
        for (int i = 0; i < SHORT_TEXT.length(); i++) {
            x.feed(SHORT_TEXT.charAt(i));
        }
        return x;
    }

    static CrewPairer fullest() {
        CrewPairer x = wide();
        x.setRule(1, 300);
        for (int crew = 0; crew < 6; crew++) {
            x.addCrew(0);
        }
        for (int leg = 0; leg < 24; leg++) {
            int departure = 60 * leg + 400 * (leg / 8);
            x.addLeg(leg % 2, 1 - leg % 2, departure, departure + 20);
            x.fly(0, leg);
        }
        for (int i = 0; i < FULL_TEXT.length(); i++) {
            x.feed(FULL_TEXT.charAt(i));
        }
        return x;
    }

    private static List<Question> questions() {
        List<Question> all = new ArrayList<>(few("", x -> { }));
        for (int leg = 0; leg < 24; leg++) {
            int l = leg;
            for (int what = 0; what < 6; what++) {
                int w = what;
                all.add(new Question("leg(" + l + ", " + w + ")", x -> x.leg(l, w)));
            }
            all.add(new Question("open(" + l + ")", x -> x.open(l)));
            all.add(new Question("called(" + l + ")", x -> x.called(l)));
        }
        for (int crew = 0; crew < 6; crew++) {
            ofCrew(all, crew);
        }
        for (int i = 0; i < 12; i++) {
            int part = i;
            all.add(new Question("rule(" + i + ")", x -> x.rule(part)));
            all.add(new Question("repaired(" + i / 4 + ", " + i % 4 + ")", x -> x.repaired(part / 4, part % 4)));
            all.add(new Question("offer(" + i / 2 + ", " + i % 2 + ")", x -> x.offer(part / 2, part % 2)));
        }
        for (int undone = 1; undone <= 9; undone++) {
            int times = undone;
            all.addAll(few("after " + undone + " undone: ", x -> {
                for (int i = 0; i < times; i++) {
                    x.undo();
                }
            }));
        }
        all.addAll(few("after restore: ", CrewPairer::restore));
        all.addAll(few("after execute: ", CrewPairer::execute));
        return all;
    }

    private static void ofCrew(List<Question> all, int c) {
        String crew = " of crew " + c;
        for (int i = 0; i < 15; i++) {
            int part = i;
            all.add(new Question("item " + i / 3 + " " + i % 3 + crew, x -> x.item(c, part / 3, part % 3)));
        }
        all.add(new Question("itemCount" + crew, x -> x.itemCount(c)));
        all.add(new Question("dutyCount" + crew, x -> x.dutyCount(c)));
        all.add(new Question("duty" + crew, x -> x.duty(c, 0, 0)));
        all.add(new Question("violationCount" + crew, x -> x.violationCount(c)));
        all.add(new Question("minutes" + crew, x -> x.minutes(c)));
        all.add(new Question("within" + crew, x -> x.within(c, 500, 300)));
        all.add(new Question("home" + crew, x -> x.home(c)));
        all.add(new Question("pairings" + crew, x -> x.pairings(c)));
        all.add(new Question("cost" + crew, x -> x.cost(c, 2)));
        all.add(new Question("start" + crew, x -> x.reserve(c, 0)));
        all.add(new Question("end" + crew, x -> x.reserve(c, 1)));
        all.add(new Question("bestMinutes" + crew, x -> x.bestMinutes(c)));
        all.add(new Question("bestLeg" + crew, x -> x.bestLeg(c, 0)));
        all.add(new Question("letter" + crew, x -> x.letter(c, -1)));
    }

    /** A few questions that tell most changes, asked after something else. */
    private static List<Question> few(String name, Consumer<CrewPairer> first) {
        List<Question> all = new ArrayList<>();
        List<Question> plain = List.of(
                new Question("legCount", CrewPairer::legCount),
                new Question("crewCount", CrewPairer::crewCount),
                new Question("openCount", CrewPairer::openCount),
                new Question("cost", x -> x.cost(-1, 2)),
                new Question("rule 0", x -> x.rule(0)),
                new Question("rule 7", x -> x.rule(7)),
                new Question("itemCount 0", x -> x.itemCount(0)),
                new Question("itemCount 1", x -> x.itemCount(1)),
                new Question("departure of leg 1", x -> x.leg(1, 2)),
                new Question("whether leg 6 is cancelled", x -> x.leg(6, 4)),
                new Question("start of crew 2", x -> x.reserve(2, 0)),
                new Question("repaired", x -> x.repaired(0, 1)),
                new Question("undo", CrewPairer::undo),
                new Question("restore", CrewPairer::restore),
                new Question("save", CrewPairer::save),
                new Question("feed", x -> x.feed('x')),
                new Question("execute", CrewPairer::execute));
        for (Question question : plain) {
            all.add(new Question(name + question.name, x -> {
                first.accept(x);
                return question.call.applyAsInt(x);
            }));
        }
        return all;
    }

    /** The call is answered with this, and nothing is answered otherwise behind it. */
    static void asked(String what, Begin begin, ToIntFunction<CrewPairer> call, int due) {
        refused(what, begin, call, due);
    }

    private static int[] answers(Supplier<CrewPairer> begin) {
        int[] answers = new int[QUESTIONS.size()];
        for (int i = 0; i < answers.length; i++) {
            answers[i] = QUESTIONS.get(i).call.applyAsInt(begin.get());
        }
        return answers;
    }

    /** The call is refused with this code, and nothing is answered otherwise behind it. */
    static void refused(String what, Begin begin, ToIntFunction<CrewPairer> call, int code) {
        refused(what, begin::make, begin.answers(), call, code);
    }

    static void refused(String what, Supplier<CrewPairer> begin, ToIntFunction<CrewPairer> call, int code) {
        refused(what, begin, answers(begin), call, code);
    }

    private static void refused(String what, Supplier<CrewPairer> begin, int[] due, ToIntFunction<CrewPairer> call, int code) {
        is(what, call.applyAsInt(begin.get()), code);
        for (int i = 0; i < due.length; i++) {
            CrewPairer x = begin.get();
            call.applyAsInt(x);
            is(QUESTIONS.get(i).name + " behind the refused call: " + what, QUESTIONS.get(i).call.applyAsInt(x), due[i]);
        }
    }
}
