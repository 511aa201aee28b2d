import java.util.function.Supplier;

/** Promise 5: replay. */
public final class ReplayTest {
    private static final int INT = ChoiceShrink.G_INT;
    private static final int LIST = ChoiceShrink.G_LIST;
    private static final int PAIR = ChoiceShrink.G_PAIR;

    private static final int[][] TWO_INTS = Make.ints(2, 255);
    private static final int[][] ADDS_UP = Make.sumIsNot(2, 10);

    public static void main(String[] args) {
        refusesOutsideIdle();
        refusesWithoutACompleteGenerator();
        refusesAnEmptyProgram();
        takesTheLeastThatIsReady();
        answersTheOutcome();
        invalidComesBeforeTheProperty();
        findsTheConsumedPrefix();
        findsAsLongAsCap();
        findsAsShortAsOne();
        changesNothingWhenItHolds();
        changesNothingWhenInvalid();
        keepsTheBuffer();
        leavesRandomStateAndCases();
        Check.end("ReplayTest");
    }

    private static void refusesOutsideIdle() {
        Check.says("Replays M. Refused (-1, no change) if phase is not PH_IDLE");
        Moment.found().values().forEach(ReplayTest::refuses);
        Moment.done().values().forEach(ReplayTest::refuses);
    }

    private static void refusesWithoutACompleteGenerator() {
        Check.says("the generator is not complete");
        refuses(() -> Make.fed(8, Make.NOTHING, Make.NEVER, 1, 2));
        refuses(() -> Make.fed(8, new int[][] {{LIST, 0}}, Make.NEVER, 1, 2));
        refuses(() -> Make.fed(8, new int[][] {{PAIR, 0}}, Make.NEVER, 1, 2));
        refuses(() -> Make.fed(8, new int[][] {{PAIR, 0}, {INT, 5}}, Make.NEVER, 1, 2));
        refuses(() -> Make.fed(8, Make.repeated(15, PAIR, 0), Make.NEVER, 1, 2));
        refuses(() -> Make.fed(8, Make.repeated(16, PAIR, 0), Make.NEVER, 1, 2));
        refuses(() -> Make.fed(8, Make.repeated(16, LIST, 0), Make.NEVER, 1, 2));
    }

    private static void refusesAnEmptyProgram() {
        Check.says("or the program is empty");
        refuses(() -> new ChoiceShrink(1, 8));
        refuses(() -> Make.fed(8, Make.ints(1, 255), Make.NOTHING, 1, 2));
        refuses(() -> Make.fed(8, Make.ints(8, 255), Make.NOTHING));
    }

    private static void takesTheLeastThatIsReady() {
        Check.says("the generator is not complete, or the program is empty", "one node and one instruction are enough");
        Check.due("replay()", ChoiceShrink.R_FAILS, Make.fed(4, Make.ints(1, 0), Make.NEVER, 0).replay());
        Check.due("replay()", ChoiceShrink.R_HOLDS, Make.fed(4, Make.ints(1, 0), Make.ALWAYS, 0).replay());
        ChoiceShrink x = Make.fed(4, new int[][] {{PAIR, 0}, {INT, 5}}, Make.NEVER, 1, 2);
        Check.due("replay() one node short", -1, x.replay());
        x.addGen(INT, 5);
        Check.due("replay() of the complete generator", ChoiceShrink.R_FAILS, x.replay());
    }

    private static void answersTheOutcome() {
        Check.says("Otherwise answers the outcome of M (R_HOLDS, R_FAILS or R_INVALID).");
        Check.due("replay of 7, 3", ChoiceShrink.R_FAILS, Make.fed(8, TWO_INTS, ADDS_UP, 7, 3).replay());
        Check.due("replay of 7, 4", ChoiceShrink.R_HOLDS, Make.fed(8, TWO_INTS, ADDS_UP, 7, 4).replay());
        Check.due("replay of 7, 2", ChoiceShrink.R_HOLDS, Make.fed(8, TWO_INTS, ADDS_UP, 7, 2).replay());
        Check.due("replay of 7", ChoiceShrink.R_INVALID, Make.fed(8, TWO_INTS, ADDS_UP, 7).replay());
        Check.due("replay of nothing", ChoiceShrink.R_INVALID, Make.fed(8, TWO_INTS, ADDS_UP).replay());
        Check.due("replay of 7, 3, 1", ChoiceShrink.R_FAILS, Make.fed(8, TWO_INTS, ADDS_UP, 7, 3, 1).replay());
    }

    private static void invalidComesBeforeTheProperty() {
        Check.says("Outcome of a sequence C: R_INVALID if its replay generation is invalid; else R_FAILS or R_HOLDS by "
            + "running the property on the generated value.");
        Check.due("replay of 7", ChoiceShrink.R_INVALID, Make.fed(8, TWO_INTS, Make.ALWAYS, 7).replay());
        Check.due("replay of 7", ChoiceShrink.R_INVALID, Make.fed(8, TWO_INTS, Make.NEVER, 7).replay());
        Check.due("replay of 7, 3", ChoiceShrink.R_HOLDS, Make.fed(8, TWO_INTS, Make.ALWAYS, 7, 3).replay());
        Check.due("replay of 7, 3", ChoiceShrink.R_FAILS, Make.fed(8, TWO_INTS, Make.NEVER, 7, 3).replay());
        // On the value, not on the choices: 17 and 13 are 7 and 3 here.
        Check.due("replay of 17, 13", ChoiceShrink.R_FAILS, Make.fed(8, Make.ints(2, 9), ADDS_UP, 17, 13).replay());
    }

    private static void findsTheConsumedPrefix() {
        Check.says("On R_FAILS the consumed prefix of M is FOUND (S, O, V set, trials and accepted 0, cursor NOT "
            + "STARTED, phase PH_FOUND).");
        ChoiceShrink x = Make.found(8, Make.LIST_OF_INT, Make.NEVER, 9, 70, 1, 80, 0, 55, 66);
        Check.due("all after replay",
            "phase 1 S [9, 70, 1, 80, 0] O [9, 70, 1, 80, 0] V [2, 70, 80] "
            + "stat [0, 0, 2, 1, 7, 0, 1, 1] cursor [0, 0, 0, 0, 0, 0]", State.of(x));
        x.shrink(3);
        x.discard();
        Make.feed(x, 0);
        Check.due("replay() after a discard", ChoiceShrink.R_FAILS, x.replay());
        Check.due("all after the second replay",
            "phase 1 S [0] O [0] V [0] stat [0, 0, 2, 1, 1, 0, 1, 1] cursor [0, 0, 0, 0, 0, 0]", State.of(x));
    }

    private static void findsAsLongAsCap() {
        Check.says("On R_FAILS the consumed prefix of M is FOUND", "all of a full M");
        ChoiceShrink x = Make.tester(1, 32, Make.LIST_OF_THREE, Make.NEVER);
        for (int element = 0; element < 8; element++) {
            Make.feed(x, 255, 254, 253, 252);
        }
        Check.due("replay()", ChoiceShrink.R_FAILS, x.replay());
        Check.due("seqLength()", 32, x.seqLength());
        Check.due("origLength()", 32, x.origLength());
        Check.due("choiceAt(31)", 252, x.choiceAt(31));
        Check.due("origChoiceAt(31)", 252, x.origChoiceAt(31));
        Check.due("valueLength()", 25, x.valueLength());
    }

    private static void findsAsShortAsOne() {
        Check.says("On R_FAILS the consumed prefix of M is FOUND", "one choice of a full M");
        ChoiceShrink x = Make.found(4, Make.LIST_OF_INT, Make.NEVER, 0, 1, 2, 3);
        Check.due("all after replay",
            "phase 1 S [0] O [0] V [0] stat [0, 0, 2, 1, 4, 0, 1, 1] cursor [0, 0, 0, 0, 0, 0]", State.of(x));
    }

    private static void changesNothingWhenItHolds() {
        Check.says("On R_HOLDS and R_INVALID nothing changes.", "R_HOLDS");
        changesNothing(ChoiceShrink.R_HOLDS, () -> Make.fed(8, TWO_INTS, Make.ALWAYS, 7, 3));
        changesNothing(ChoiceShrink.R_HOLDS, () -> Make.fed(4, TWO_INTS, ADDS_UP, 7, 4, 9, 9));
    }

    private static void changesNothingWhenInvalid() {
        Check.says("On R_HOLDS and R_INVALID nothing changes.", "R_INVALID");
        changesNothing(ChoiceShrink.R_INVALID, () -> Make.fed(8, Make.ints(3, 255), Make.NEVER, 7, 3));
        changesNothing(ChoiceShrink.R_INVALID, () -> Make.fed(8, Make.ints(3, 255), Make.NEVER));
        changesNothing(ChoiceShrink.R_INVALID, () -> Make.fed(4, Make.ints(5, 255), Make.NEVER, 1, 2, 3, 4));
    }

    private static void changesNothing(int outcome, Supplier<ChoiceShrink> made) {
        ChoiceShrink x = made.get();
        String before = State.everywhere(x);
        Check.due("replay()", outcome, x.replay());
        Check.due("all after it", before, State.everywhere(x));
        Future.same("it", made, () -> {
            ChoiceShrink replayed = made.get();
            replayed.replay();
            return replayed;
        });
    }

    private static void keepsTheBuffer() {
        Check.says("M itself is unchanged in every case");
        ChoiceShrink x = Make.fed(8, Make.ints(3, 255), Make.NEVER, 7, 3);
        Check.due("replay()", ChoiceShrink.R_INVALID, x.replay());
        Check.due("replay() again", ChoiceShrink.R_INVALID, x.replay());
        Check.due("pushChoice(4)", 3, x.pushChoice(4));
        Check.due("replay() of one more", ChoiceShrink.R_FAILS, x.replay());
        Check.due("S", "[7, 3, 4]", State.sequence(x).toString());
        Check.due("stat(4)", 3, x.stat(4));
        Check.due("pushChoice(5)", 4, x.pushChoice(5));
        Check.due("S after pushChoice", "[7, 3, 4]", State.sequence(x).toString());
        ChoiceShrink holds = Make.fed(8, TWO_INTS, Make.ALWAYS, 7, 3, 9);
        Check.due("replay()", ChoiceShrink.R_HOLDS, holds.replay());
        Check.due("stat(4)", 3, holds.stat(4));
        holds.addOp(ChoiceShrink.OP_NOT, 0);
        Check.due("replay()", ChoiceShrink.R_FAILS, holds.replay());
        Check.due("S", "[7, 3]", State.sequence(holds).toString());
        Check.due("stat(4)", 3, holds.stat(4));
    }

    private static void leavesRandomStateAndCases() {
        Check.says("the PRNG state and cases are unchanged");
        ChoiceShrink x = Make.tester(77, 8, Make.ints(1, 255), Make.ALWAYS);
        x.run(3);
        int state = x.stat(7);
        Check.due("replay()", ChoiceShrink.R_INVALID, x.replay());
        Check.due("stat(7)", state, x.stat(7));
        x.pushChoice(9);
        Check.due("replay()", ChoiceShrink.R_HOLDS, x.replay());
        Check.due("stat(7)", state, x.stat(7));
        Check.due("stat(5)", 3, x.stat(5));
        x.addOp(ChoiceShrink.OP_NOT, 0);
        Check.due("replay()", ChoiceShrink.R_FAILS, x.replay());
        Check.due("S", "[9]", State.sequence(x).toString());
        Check.due("stat(7)", state, x.stat(7));
        Check.due("stat(5)", 3, x.stat(5));
    }

    private static void refuses(Supplier<ChoiceShrink> made) {
        Refused.due("replay()", made, ChoiceShrink::replay);
    }
}
