import java.util.function.Supplier;

/** Promise 8: discard. */
public final class DiscardTest {
    private static final int[][] TWO_INTS = Make.ints(2, 255);
    private static final int[][] ADDS_UP = Make.sumIsNot(2, 10);

    public static void main(String[] args) {
        worksOnANewObject();
        worksInEveryPhase();
        clearsTheBufferInIdle();
        clearsAFinding();
        clearsAHalfShrunkOne();
        clearsADoneOne();
        clearsAFullBuffer();
        worksTwice();
        keepsAnIncompleteGenerator();
        keepsGeneratorAndProgram();
        keepsTheRandomStateAndCases();
        shrinksAnewAfterwards();
        Check.end("DiscardTest");
    }

    private static void worksOnANewObject() {
        Check.says("Always works, in every phase.", "where nothing is to be cleared");
        ChoiceShrink x = new ChoiceShrink(7, 8);
        String before = State.everywhere(x);
        x.discard();
        Check.due("all after discard of a new object", before, State.everywhere(x));
        Future.same("discard of a new object", () -> new ChoiceShrink(7, 8), () -> {
            ChoiceShrink discarded = new ChoiceShrink(7, 8);
            discarded.discard();
            return discarded;
        });
    }

    private static void worksInEveryPhase() {
        Check.says("Always works, in every phase. Clears S, O, V, M, trials, accepted and the cursor; phase := "
            + "PH_IDLE.");
        Moment.idle().forEach(DiscardTest::clears);
        Moment.found().forEach(DiscardTest::clears);
        Moment.done().forEach(DiscardTest::clears);
    }

    private static void clears(String moment, Supplier<ChoiceShrink> made) {
        ChoiceShrink x = made.get();
        String kept = kept(x);
        x.discard();
        Check.due(moment + ": phase()", ChoiceShrink.PH_IDLE, x.phase());
        Check.due(moment + ": seqLength()", 0, x.seqLength());
        Check.due(moment + ": origLength()", 0, x.origLength());
        Check.due(moment + ": valueLength()", 0, x.valueLength());
        for (int i : new int[] {Make.LEAST, -1, 0, 1, Make.GREATEST}) {
            Check.due(moment + ": choiceAt(" + i + ")", -1, x.choiceAt(i));
            Check.due(moment + ": origChoiceAt(" + i + ")", -1, x.origChoiceAt(i));
            Check.due(moment + ": valueAt(" + i + ")", -1, x.valueAt(i));
        }
        Check.due(moment + ": trials", 0, x.stat(0));
        Check.due(moment + ": accepted", 0, x.stat(1));
        Check.due(moment + ": length of M", 0, x.stat(4));
        Check.due(moment + ": cursor", "[0, 0, 0, 0, 0, 0]", State.cursor(x).toString());
        Check.due(moment + ": what is kept", kept, kept(x));
    }

    /** Generator nodes, program length, cases, completeness and PRNG state. */
    private static String kept(ChoiceShrink x) {
        return x.stat(2) + " " + x.stat(3) + " " + x.stat(5) + " " + x.stat(6) + " " + x.stat(7);
    }

    private static void clearsTheBufferInIdle() {
        Check.says("Clears S, O, V, M", "in PH_IDLE");
        ChoiceShrink x = Make.fed(8, TWO_INTS, ADDS_UP, 7, 3);
        x.discard();
        isCleared(x);
    }

    private static void clearsAFinding() {
        Check.says("Clears S, O, V, M, trials, accepted and the cursor; phase := PH_IDLE.", "NOT STARTED");
        ChoiceShrink x = Moment.sevenThree(0);
        x.discard();
        isCleared(x);
    }

    private static void clearsAHalfShrunkOne() {
        Check.says("Clears S, O, V, M, trials, accepted and the cursor; phase := PH_IDLE.", "resting before a trial");
        for (int trials = 1; trials <= 22; trials++) {
            ChoiceShrink x = Moment.sevenThree(trials);
            Check.due("phase() after " + trials + " trials", ChoiceShrink.PH_FOUND, x.phase());
            x.discard();
            isCleared(x);
        }
    }

    private static void clearsADoneOne() {
        Check.says("Clears S, O, V, M, trials, accepted and the cursor; phase := PH_IDLE.", "PH_DONE");
        ChoiceShrink x = Moment.sevenThree(23);
        Check.due("phase()", ChoiceShrink.PH_DONE, x.phase());
        x.discard();
        isCleared(x);
    }

    private static void clearsAFullBuffer() {
        Check.says("Clears S, O, V, M", "a full M has all its room again");
        for (int cap : new int[] {4, 5, 31, 32}) {
            ChoiceShrink x = Make.fed(cap, TWO_INTS, ADDS_UP, new int[cap]);
            Check.due("pushChoice when full", -1, x.pushChoice(1));
            x.discard();
            for (int length = 1; length <= cap; length++) {
                Check.due("pushChoice after discard", length, x.pushChoice(1));
            }
            Check.due("pushChoice when full again", -1, x.pushChoice(1));
        }
    }

    private static void worksTwice() {
        Check.says("Always works, in every phase.", "once more");
        ChoiceShrink x = Moment.sevenThree(9);
        x.discard();
        x.discard();
        isCleared(x);
        x.discard();
        isCleared(x);
    }

    private static void keepsAnIncompleteGenerator() {
        Check.says("Generator, program, PRNG state and cases are kept.", "a generator that is not complete");
        ChoiceShrink x = Make.tester(1, 8, new int[][] {{ChoiceShrink.G_PAIR, 0}, {ChoiceShrink.G_INT, 9}}, Make.NEVER);
        x.discard();
        Check.due("stat(2)", 2, x.stat(2));
        Check.due("stat(6)", 0, x.stat(6));
        Check.due("addGen after discard", 2, x.addGen(ChoiceShrink.G_INT, 99));
        Check.due("stat(6)", 1, x.stat(6));
        Make.feed(x, 255, 255);
        Check.due("replay()", ChoiceShrink.R_FAILS, x.replay());
        Check.due("V", "[5, 55]", State.value(x).toString());
    }

    private static void keepsGeneratorAndProgram() {
        Check.says("Generator, program, PRNG state and cases are kept.", "generator and program");
        for (int trials = 0; trials <= 23; trials++) {
            ChoiceShrink x = Moment.sevenThree(trials);
            x.discard();
            Make.feed(x, 8, 3);
            Check.due("replay of 8, 3 after discard", ChoiceShrink.R_HOLDS, x.replay());
            x.discard();
            Make.feed(x, 8, 2);
            Check.due("replay of 8, 2 after discard", ChoiceShrink.R_FAILS, x.replay());
            Check.due("V", "[8, 2]", State.value(x).toString());
        }
    }

    private static void keepsTheRandomStateAndCases() {
        Check.says("Generator, program, PRNG state and cases are kept.", "PRNG state and cases");
        ChoiceShrink x = Make.tester(7, 8, TWO_INTS, Make.NEVER);
        Check.due("run(16)", 1, x.run(16));
        int state = x.stat(7);
        x.discard();
        Check.due("stat(7) after discard", state, x.stat(7));
        Check.due("stat(5) after discard", 1, x.stat(5));
        Check.due("run(16) after discard", 1, x.run(16));
        Check.due("stat(5) after the second run", 2, x.stat(5));
        // The draws go on where the first run left them.
        ChoiceShrink four = Make.tester(7, 8, Make.ints(4, 255), Make.NEVER);
        four.run(1);
        Check.due("first choice after discard", four.choiceAt(2), x.choiceAt(0));
        Check.due("second choice after discard", four.choiceAt(3), x.choiceAt(1));
    }

    private static void shrinksAnewAfterwards() {
        Check.says("trials, accepted and the cursor; phase := PH_IDLE.", "a later finding starts anew");
        ChoiceShrink x = Moment.sevenThree(9);
        x.discard();
        Make.feed(x, 7, 3);
        Check.due("replay() after discard", ChoiceShrink.R_FAILS, x.replay());
        Check.due("all after replay", State.of(Moment.sevenThree(0)), State.of(x));
        Check.due("shrink(64) after discard", 23, x.shrink(64));
        Check.due("all after shrink", State.of(Moment.sevenThree(23)), State.of(x));
        // What an improved round left must not make the next finding's first round count as improved.
        ChoiceShrink y = Moment.lowering();
        y.discard();
        Make.feed(y, 20, 30);
        Check.due("replay() after discard", ChoiceShrink.R_FAILS, y.replay());
        Check.due("cursor of the second finding", "[0, 0, 0, 0, 0, 0]", State.cursor(y).toString());
        y.shrink(1);
        Check.due("cursor after one trial", "[1, 1, 0, 0, 0, 0]", State.cursor(y).toString());
    }

    private static void isCleared(ChoiceShrink x) {
        Check.due("all after discard",
            "phase 0 S [] O [] V [] stat [0, 0, 3, 8, 0, 0, 1, 1] cursor [0, 0, 0, 0, 0, 0]", State.of(x));
        Check.due("shrink(1) after discard", -1, x.shrink(1));
        Check.due("replay() of the cleared buffer", ChoiceShrink.R_INVALID, x.replay());
    }
}
