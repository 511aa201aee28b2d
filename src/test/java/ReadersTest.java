/** Promises 9 to 14: phase, the three sequences, stat and cursor. */
public final class ReadersTest {
    private static final int[] FAR = {Integer.MIN_VALUE, -100, -2, -1, 32, 33, 100, Integer.MAX_VALUE};

    public static void main(String[] args) {
        emptyInIdle();
        phaseFollowsTheWork();
        sequencesAndTheirEnds();
        statTellsEachField();
        otherStatsAreZero();
        cursorTellsEachField();
        otherCursorsAreZero();
        cursorIsZeroUnlessUnderWay();
        readingChangesNothing();
        Check.end("ReadersTest");
    }

    private static void emptyInIdle() {
        ChoiceShrink x = Make.fed(8, Make.ints(2, 255), Make.ALWAYS, 7, 3);
        x.replay();
        x.run(16);
        Check.due("phase()", ChoiceShrink.PH_IDLE, x.phase());
        Check.due("seqLength()", 0, x.seqLength());
        Check.due("origLength()", 0, x.origLength());
        Check.due("valueLength()", 0, x.valueLength());
        for (int i = -1; i <= 32; i++) {
            readsNothing(x, i);
        }
    }

    private static void phaseFollowsTheWork() {
        ChoiceShrink x = Make.fed(8, Make.ints(2, 255), Make.firstTwoDoNotAddUpTo(10), 7);
        Check.due("phase() before", ChoiceShrink.PH_IDLE, x.phase());
        x.replay();
        Check.due("phase() after an invalid replay", ChoiceShrink.PH_IDLE, x.phase());
        x.pushChoice(3);
        x.replay();
        Check.due("phase() after replay", ChoiceShrink.PH_FOUND, x.phase());
        x.shrink(22);
        Check.due("phase() before the last trial", ChoiceShrink.PH_FOUND, x.phase());
        x.shrink(1);
        Check.due("phase() after the last trial", ChoiceShrink.PH_DONE, x.phase());
        x.discard();
        Check.due("phase() after discard", ChoiceShrink.PH_IDLE, x.phase());
    }

    /** S, O and V have different lengths here, so none can stand for another. */
    private static void sequencesAndTheirEnds() {
        ChoiceShrink x = Make.fed(8, Make.LIST_OF_INT, Make.NEVER, 1, 5, 1, 6, 2, 7, 0, 99);
        x.replay();
        Check.due("seqLength()", 7, x.seqLength());
        x.shrink(1);
        Check.due("seqLength()", 3, x.seqLength());
        Check.due("choiceAt(0)", 2, x.choiceAt(0));
        Check.due("choiceAt(1)", 7, x.choiceAt(1));
        Check.due("choiceAt(2)", 0, x.choiceAt(2));
        Check.due("choiceAt(3)", -1, x.choiceAt(3));
        Check.due("origLength()", 7, x.origLength());
        Check.due("origChoiceAt(0)", 1, x.origChoiceAt(0));
        Check.due("origChoiceAt(4)", 2, x.origChoiceAt(4));
        Check.due("origChoiceAt(6)", 0, x.origChoiceAt(6));
        Check.due("origChoiceAt(7)", -1, x.origChoiceAt(7));
        Check.due("valueLength()", 2, x.valueLength());
        Check.due("valueAt(0)", 1, x.valueAt(0));
        Check.due("valueAt(1)", 7, x.valueAt(1));
        Check.due("valueAt(2)", -1, x.valueAt(2));
        for (int i : FAR) {
            readsNothing(x, i);
        }
    }

    private static void readsNothing(ChoiceShrink x, int i) {
        Check.due("choiceAt(" + i + ")", -1, x.choiceAt(i));
        Check.due("origChoiceAt(" + i + ")", -1, x.origChoiceAt(i));
        Check.due("valueAt(" + i + ")", -1, x.valueAt(i));
    }

    /** Every field has a number of its own. */
    private static void statTellsEachField() {
        ChoiceShrink x = busy();
        Check.due("stat(0)", 12, x.stat(0));
        Check.due("stat(1)", 1, x.stat(1));
        Check.due("stat(2)", 3, x.stat(2));
        Check.due("stat(3)", 8, x.stat(3));
        Check.due("stat(4)", 2, x.stat(4));
        Check.due("stat(5)", 5, x.stat(5));
        Check.due("stat(6)", 1, x.stat(6));
        int state = 7;
        for (int draw = 0; draw < 10; draw++) {
            state = state * 1103515245 + 12345;
        }
        Check.due("stat(7)", state, x.stat(7));
        Check.due("stat(7) is negative for some seed", 1, firstNegativeState() < 0 ? 1 : 0);
    }

    private static int firstNegativeState() {
        for (int seed = 0; seed < 100; seed++) {
            ChoiceShrink x = Make.tester(seed, 8, Make.ints(1, 255), Make.ALWAYS);
            x.run(1);
            int due = seed * 1103515245 + 12345;
            Check.due("stat(7) after one draw from " + seed, due, x.stat(7));
            if (x.stat(7) < 0) {
                return x.stat(7);
            }
        }
        return 0;
    }

    private static void otherStatsAreZero() {
        for (int what : new int[] {Integer.MIN_VALUE, -8, -7, -1, 8, 9, 32, Integer.MAX_VALUE}) {
            Check.due("stat(" + what + ")", 0, busy().stat(what));
        }
    }

    /** Lowering the second choice in an improved round leaves no field at 0. */
    private static void cursorTellsEachField() {
        int[][] notBothAtLeast = {
            {ChoiceShrink.OP_PUSH, 0}, {ChoiceShrink.OP_VAL, 0}, {ChoiceShrink.OP_PUSH, 20}, {ChoiceShrink.OP_LT, 0},
            {ChoiceShrink.OP_PUSH, 1}, {ChoiceShrink.OP_VAL, 0}, {ChoiceShrink.OP_PUSH, 30}, {ChoiceShrink.OP_LT, 0},
            {ChoiceShrink.OP_ADD, 0}};
        ChoiceShrink x = Make.fed(8, Make.ints(2, 255), notBothAtLeast, 40, 50);
        Check.due("replay()", ChoiceShrink.R_FAILS, x.replay());
        // Six trials of deleting and zeroing, then 20, 10, 15, 18 and 19, then 25.
        Check.due("shrink(12)", 12, x.shrink(12));
        Check.due("S", "[20, 50]", State.sequence(x).toString());
        Check.due("cursor(0)", 3, x.cursor(0));
        Check.due("cursor(1)", 1, x.cursor(1));
        Check.due("cursor(2)", 1, x.cursor(2));
        Check.due("cursor(3)", 26, x.cursor(3));
        Check.due("cursor(4)", 50, x.cursor(4));
        Check.due("cursor(5)", 1, x.cursor(5));
    }

    private static void otherCursorsAreZero() {
        for (int what : new int[] {Integer.MIN_VALUE, -6, -5, -1, 6, 7, 32, Integer.MAX_VALUE}) {
            Check.due("cursor(" + what + ")", 0, busy().cursor(what));
        }
    }

    private static void cursorIsZeroUnlessUnderWay() {
        String zeros = "[0, 0, 0, 0, 0, 0]";
        ChoiceShrink x = Make.fed(8, Make.ints(2, 255), Make.firstTwoDoNotAddUpTo(10), 7, 3);
        Check.due("cursor in PH_IDLE", zeros, State.cursor(x).toString());
        x.replay();
        Check.due("cursor before the first shrink", zeros, State.cursor(x).toString());
        x.shrink(1);
        Check.due("cursor under way", "[1, 1, 0, 0, 0, 0]", State.cursor(x).toString());
        x.shrink(64);
        Check.due("cursor in PH_DONE", zeros, State.cursor(x).toString());
        x.discard();
        Check.due("cursor after discard", zeros, State.cursor(x).toString());
    }

    private static void readingChangesNothing() {
        ChoiceShrink x = busy();
        String before = State.of(x);
        for (int i = -2; i <= 40; i++) {
            x.stat(i);
            x.cursor(i);
            x.choiceAt(i);
            x.origChoiceAt(i);
            x.valueAt(i);
        }
        Check.due("all after reading", before, State.of(x));
        ChoiceShrink y = busy();
        x.shrink(3);
        y.shrink(3);
        Check.due("all after shrinking on", State.of(y), State.of(x));
    }

    private static ChoiceShrink busy() {
        ChoiceShrink x = Make.tester(7, 8, Make.ints(2, 255), Make.firstTwoDoNotAddUpTo(10));
        x.run(5);
        Make.feed(x, 7, 3);
        x.replay();
        x.shrink(12);
        return x;
    }
}
