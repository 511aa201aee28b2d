import java.util.ArrayList;
import java.util.List;
import java.util.function.IntUnaryOperator;
import java.util.function.Supplier;

/** Promises 9 to 14: phase, the three sequences, stat and cursor. */
public final class ReadersTest {
    private static final String ZEROS = "[0, 0, 0, 0, 0, 0]";

    public static void main(String[] args) {
        phaseFollowsTheWork();
        emptyInIdle();
        choicesAndTheirEnds();
        originalChoicesAndTheirEnds();
        cellsAndTheirEnds();
        sequencesOfOne();
        sequencesOfTheGreatestLength();
        statTellsEachField();
        statTellsCompleteness();
        statTellsANegativeState();
        otherStatsAreZero();
        cursorTellsEachField();
        otherCursorsAreZero();
        cursorIsZeroUnlessUnderWay();
        cursorHasNoBoundsOutsidePass3();
        readingChangesNothing();
        Check.end("ReadersTest");
    }

    private static List<Supplier<ChoiceShrink>> everyMoment() {
        List<Supplier<ChoiceShrink>> all = new ArrayList<>();
        all.addAll(Moment.idle().values());
        all.addAll(Moment.found().values());
        all.addAll(Moment.done().values());
        return all;
    }

    private static void phaseFollowsTheWork() {
        Check.says("phase() answers the current phase: PH_IDLE, PH_FOUND or PH_DONE.");
        ChoiceShrink x = Make.fed(8, Make.ints(2, 255), Make.sumIsNot(2, 10), 7);
        Check.due("phase() before", ChoiceShrink.PH_IDLE, x.phase());
        x.replay();
        Check.due("phase() after an invalid replay", ChoiceShrink.PH_IDLE, x.phase());
        x.pushChoice(3);
        x.replay();
        Check.due("phase() after replay", ChoiceShrink.PH_FOUND, x.phase());
        x.shrink(22);
        Check.due("phase() before the last trial", ChoiceShrink.PH_FOUND, x.phase());
        x.shrink(1);
        Check.due("phase() after the last trial", ChoiceShrink.PH_DONE, x.phase());
        x.discard();
        Check.due("phase() after discard", ChoiceShrink.PH_IDLE, x.phase());
        Moment.idle().forEach((moment, made) -> Check.due(moment, ChoiceShrink.PH_IDLE, made.get().phase()));
        Moment.found().forEach((moment, made) -> Check.due(moment, ChoiceShrink.PH_FOUND, made.get().phase()));
        Moment.done().forEach((moment, made) -> Check.due(moment, ChoiceShrink.PH_DONE, made.get().phase()));
    }

    private static void emptyInIdle() {
        Check.says("(so always -1 in PH_IDLE).");
        for (Supplier<ChoiceShrink> made : Moment.idle().values()) {
            ChoiceShrink x = made.get();
            readsExactly("choiceAt", x::choiceAt, x.seqLength());
            readsExactly("origChoiceAt", x::origChoiceAt, x.origLength());
            readsExactly("valueAt", x::valueAt, x.valueLength());
        }
    }

    /** The reader answers these and, at every other index, -1. */
    private static void readsExactly(String reader, IntUnaryOperator asked, int length, int... due) {
        Check.due("length of " + reader, due.length, length);
        for (int i = -3; i <= 40; i++) {
            boolean inside = i >= 0 && i < due.length;
            Check.due(reader + "(" + i + ")", inside ? due[i] : -1, asked.applyAsInt(i));
        }
        for (int i : new int[] {Make.LEAST, Make.LEAST + 1, -256, 64, 256, 65536, Make.GREATEST - 1, Make.GREATEST}) {
            Check.due(reader + "(" + i + ")", -1, asked.applyAsInt(i));
        }
    }

    /** S, O and V have different lengths here, so none can stand for another. */
    private static ChoiceShrink shrunkOnce() {
        ChoiceShrink x = Make.found(8, Make.LIST_OF_INT, Make.NEVER, 1, 5, 1, 6, 2, 7, 0, 99);
        x.shrink(1);
        return x;
    }

    private static void choicesAndTheirEnds() {
        Check.says("seqLength() answers len(S) (0 in PH_IDLE). choiceAt(i) answers S[i], or -1 if i is not in "
            + "0..len(S)-1");
        ChoiceShrink x = shrunkOnce();
        readsExactly("choiceAt", x::choiceAt, x.seqLength(), 2, 7, 0);
        ChoiceShrink done = Moment.sevenThree(23);
        readsExactly("choiceAt in PH_DONE", done::choiceAt, done.seqLength(), 3, 7);
        ChoiceShrink found = Moment.sevenThree(0);
        readsExactly("choiceAt in PH_FOUND", found::choiceAt, found.seqLength(), 7, 3);
    }

    private static void originalChoicesAndTheirEnds() {
        Check.says("origLength() answers len(O) (0 in PH_IDLE). origChoiceAt(i) answers O[i], or -1 if i is not in "
            + "0..len(O)-1.");
        ChoiceShrink x = shrunkOnce();
        readsExactly("origChoiceAt", x::origChoiceAt, x.origLength(), 1, 5, 1, 6, 2, 7, 0);
        ChoiceShrink done = Moment.sevenThree(23);
        readsExactly("origChoiceAt in PH_DONE", done::origChoiceAt, done.origLength(), 7, 3);
        ChoiceShrink found = Moment.sevenThree(0);
        readsExactly("origChoiceAt in PH_FOUND", found::origChoiceAt, found.origLength(), 7, 3);
    }

    private static void cellsAndTheirEnds() {
        Check.says("valueLength() answers the number of cells of V, the value generated from S (0 in PH_IDLE). "
            + "valueAt(i) answers V[i], or -1 if i is not in 0..valueLength()-1.");
        ChoiceShrink x = shrunkOnce();
        readsExactly("valueAt", x::valueAt, x.valueLength(), 1, 7);
        ChoiceShrink done = Moment.sevenThree(23);
        readsExactly("valueAt in PH_DONE", done::valueAt, done.valueLength(), 3, 7);
        ChoiceShrink bounded = Make.found(8, Make.ints(2, 9), Make.NEVER, 255, 10);
        readsExactly("valueAt of bounded ints", bounded::valueAt, bounded.valueLength(), 5, 0);
    }

    private static void sequencesOfOne() {
        Check.says("if i is not in 0..len(S)-1", "one choice, the fewest that a counterexample has");
        ChoiceShrink x = Make.found(8, Make.LIST_OF_INT, Make.NEVER, 0, 9, 9);
        readsExactly("choiceAt", x::choiceAt, x.seqLength(), 0);
        readsExactly("origChoiceAt", x::origChoiceAt, x.origLength(), 0);
        readsExactly("valueAt", x::valueAt, x.valueLength(), 0);
    }

    private static void sequencesOfTheGreatestLength() {
        Check.says("if i is not in 0..len(S)-1", "32 choices, the most that a counterexample has");
        int[] choices = new int[32];
        int[] cells = new int[25];
        cells[0] = 8;
        for (int j = 0; j < 32; j++) {
            choices[j] = 100 + j;
            if (j % 4 > 0) {
                cells[j / 4 * 3 + j % 4] = 100 + j;
            }
        }
        ChoiceShrink x = Make.found(32, Make.LIST_OF_THREE, Make.NEVER, choices);
        readsExactly("choiceAt", x::choiceAt, x.seqLength(), choices);
        readsExactly("origChoiceAt", x::origChoiceAt, x.origLength(), choices);
        readsExactly("valueAt", x::valueAt, x.valueLength(), cells);
    }

    /** Every field has a number of its own. */
    private static void statTellsEachField() {
        Check.says("stat(what) answers: 0 trials; 1 accepted; 2 generator nodes; 3 program length; 4 len(M); 5 cases; "
            + "6 generator complete (1 or 0); 7 PRNG state");
        ChoiceShrink x = busy();
        Check.due("stat(0)", 12, x.stat(0));
        Check.due("stat(1)", 1, x.stat(1));
        Check.due("stat(2)", 3, x.stat(2));
        Check.due("stat(3)", 8, x.stat(3));
        Check.due("stat(4)", 2, x.stat(4));
        Check.due("stat(5)", 5, x.stat(5));
        Check.due("stat(6)", 1, x.stat(6));
        int state = 7;
        for (int draw = 0; draw < 10; draw++) {
            state = state * 1103515245 + 12345;
        }
        Check.due("stat(7)", state, x.stat(7));
    }

    private static void statTellsCompleteness() {
        Check.says("6 generator complete (1 or 0)");
        ChoiceShrink x = new ChoiceShrink(1, 8);
        Check.due("stat(6) of no node", 0, x.stat(6));
        x.addGen(ChoiceShrink.G_PAIR, 0);
        Check.due("stat(6) of a pair", 0, x.stat(6));
        x.addGen(ChoiceShrink.G_INT, 0);
        Check.due("stat(6) of a pair and an int", 0, x.stat(6));
        x.addGen(ChoiceShrink.G_INT, 0);
        Check.due("stat(6) of a pair and two ints", 1, x.stat(6));
        x.discard();
        Check.due("stat(6) after discard", 1, x.stat(6));
        Check.due("stat(6) of sixteen pairs", 0,
            Make.tester(1, 8, Make.repeated(16, ChoiceShrink.G_PAIR, 0), Make.NOTHING).stat(6));
    }

    private static void statTellsANegativeState() {
        Check.says("7 PRNG state (as an int, possibly negative)");
        ChoiceShrink x = Make.tester(2, 8, Make.ints(1, 255), Make.ALWAYS);
        Check.due("stat(7) at the start", 2, x.stat(7));
        x.run(1);
        Check.due("stat(7) after one draw", -2087924461, x.stat(7));
        x.run(1);
        Check.due("stat(7) after two draws", 1495354192, x.stat(7));
    }

    private static void otherStatsAreZero() {
        Check.says("Any other what answers 0.", "stat");
        for (Supplier<ChoiceShrink> made : everyMoment()) {
            ChoiceShrink x = made.get();
            for (int what : new int[] {Make.LEAST, -8, -7, -1, 8, 9, 32, 256, 263, Make.GREATEST}) {
                Check.due("stat(" + what + ")", 0, x.stat(what));
            }
        }
    }

    private static void cursorTellsEachField() {
        Check.says("cursor(what) answers the shrink cursor: what 0 pass, 1 k, 2 i, 3 lo, 4 hi, 5 improved.");
        ChoiceShrink x = Moment.lowering();
        Check.due("S", "[20, 50]", State.sequence(x).toString());
        Check.due("cursor(0)", 3, x.cursor(0));
        Check.due("cursor(1)", 1, x.cursor(1));
        Check.due("cursor(2)", 1, x.cursor(2));
        Check.due("cursor(3)", 26, x.cursor(3));
        Check.due("cursor(4)", 50, x.cursor(4));
        Check.due("cursor(5)", 1, x.cursor(5));
    }

    private static void otherCursorsAreZero() {
        Check.says("Any other what answers 0.", "cursor");
        for (Supplier<ChoiceShrink> made : everyMoment()) {
            ChoiceShrink x = made.get();
            for (int what : new int[] {Make.LEAST, -6, -5, -1, 6, 7, 32, 256, 261, Make.GREATEST}) {
                Check.due("cursor(" + what + ")", 0, x.cursor(what));
            }
        }
    }

    private static void cursorIsZeroUnlessUnderWay() {
        Check.says("In PH_IDLE, in PH_DONE, and in PH_FOUND before the first shrink call (NOT STARTED) every field "
            + "reads 0.");
        for (Supplier<ChoiceShrink> made : everyMoment()) {
            ChoiceShrink x = made.get();
            boolean underWay = x.phase() == ChoiceShrink.PH_FOUND && x.stat(0) > 0;
            if (underWay) {
                Check.due("cursor(0) under way", 1, x.cursor(0) >= 1 && x.cursor(0) <= 4 ? 1 : 0);
            } else {
                Check.due("cursor", ZEROS, State.cursor(x).toString());
            }
        }
        ChoiceShrink x = Moment.sevenThree(0);
        Check.due("cursor before the first shrink", ZEROS, State.cursor(x).toString());
        x.shrink(1);
        Check.due("cursor after it", "[1, 1, 0, 0, 0, 0]", State.cursor(x).toString());
    }

    private static void cursorHasNoBoundsOutsidePass3() {
        Check.says("Cursor. While resting before a trial, the cursor holds: pass (1..4); k (in pass 1 or 2 the block "
            + "size; in passes 3 and 4 it is 1); i; lo and hi (in pass 3 the current bounds; in other passes 0); "
            + "improved.");
        restsAt(1, 1, 1, 0, 0);
        restsAt(3, 2, 2, 0, 0);
        restsAt(4, 2, 1, 0, 0);
        restsAt(6, 3, 1, 0, 7);
        restsAt(8, 3, 1, 6, 7);
        restsAt(11, 4, 1, 0, 0);
        restsAt(12, 1, 2, 0, 0);
    }

    private static void restsAt(int trials, int pass, int k, int lo, int hi) {
        ChoiceShrink x = Moment.sevenThree(trials);
        Check.due("pass after " + trials, pass, x.cursor(0));
        Check.due("k after " + trials, k, x.cursor(1));
        Check.due("lo after " + trials, lo, x.cursor(3));
        Check.due("hi after " + trials, hi, x.cursor(4));
    }

    private static void readingChangesNothing() {
        Check.says("No change.", "every reader");
        for (Supplier<ChoiceShrink> made : everyMoment()) {
            ChoiceShrink x = made.get();
            String before = State.everywhere(x);
            Check.due("all after reading", before, State.everywhere(x));
            Future.same("reading", made, () -> {
                ChoiceShrink read = made.get();
                State.everywhere(read);
                return read;
            });
        }
        ChoiceShrink x = busy();
        ChoiceShrink y = busy();
        State.everywhere(x);
        x.shrink(3);
        y.shrink(3);
        Check.due("all after shrinking on", State.of(y), State.of(x));
    }

    private static ChoiceShrink busy() {
        ChoiceShrink x = Make.tester(7, 8, Make.ints(2, 255), Make.sumIsNot(2, 10));
        x.run(5);
        Make.feed(x, 7, 3);
        x.replay();
        x.shrink(12);
        return x;
    }
}
