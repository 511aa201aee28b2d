/** Promise 7: shrink, with the cursor of promise 14 before every trial. */
public final class ShrinkTest {
    private static final int PUSH = ChoiceShrink.OP_PUSH;
    private static final int VAL = ChoiceShrink.OP_VAL;

    public static void main(String[] args) {
        refusesOutsideFound();
        clampsTheBudget();
        deletes();
        zeroes();
        lowersAndShortens();
        sorts();
        restsBeforeEveryTrial();
        anyBudgetsGiveTheSame();
        leavesTheRest();
        aMinimalOneEndsUnchanged();
        aSequenceOfTheGreatestLength();
        Check.end("ShrinkTest");
    }

    private static void refusesOutsideFound() {
        ChoiceShrink x = Make.fed(8, Make.ints(2, 255), Make.firstTwoDoNotAddUpTo(10), 7, 3);
        refuses(x);
        x.replay();
        x.shrink(64);
        Check.due("phase()", ChoiceShrink.PH_DONE, x.phase());
        refuses(x);
        x.discard();
        refuses(x);
        refuses(new ChoiceShrink(1, 8));
    }

    private static void clampsTheBudget() {
        does(1, 1);
        does(0, 1);
        does(-1, 1);
        does(Integer.MIN_VALUE, 1);
        does(2, 2);
        does(63, 63);
        does(64, 64);
        does(65, 64);
        does(Integer.MAX_VALUE, 64);
    }

    private static void does(int budget, int trials) {
        ChoiceShrink x = manyTrials();
        Check.due("shrink(" + budget + ")", trials, x.shrink(budget));
        Check.due("stat(0) after shrink(" + budget + ")", trials, x.stat(0));
        Check.due("phase() after shrink(" + budget + ")", ChoiceShrink.PH_FOUND, x.phase());
    }

    /** Round one takes 45 trials and round two more than 20, so no single call can end it. */
    private static ChoiceShrink manyTrials() {
        ChoiceShrink x = Make.fed(8, Make.ints(8, 255), Make.firstTwoDoNotAddUpTo(510),
            255, 255, 255, 255, 255, 255, 255, 255);
        Check.due("replay()", ChoiceShrink.R_FAILS, x.replay());
        return x;
    }

    private static void deletes() {
        ChoiceShrink x = Make.fed(8, Make.LIST_OF_INT, Make.NEVER, 1, 5, 1, 6, 1, 7, 0);
        x.replay();
        Check.due("shrink(1)", 1, x.shrink(1));
        isAt(x, "[1, 7, 0]", "[1, 7]", "[1, 2, 0, 0, 0, 1]", 1, 1);
        Check.due("shrink(1)", 1, x.shrink(1));
        isAt(x, "[0]", "[0]", "[1, 1, 0, 0, 0, 1]", 2, 2);
        // Nothing is left to try in this round: the cursor rests in the next one.
        Check.due("shrink(1)", 1, x.shrink(1));
        isAt(x, "[0]", "[0]", "[1, 1, 0, 0, 0, 0]", 3, 2);
        Check.due("phase()", ChoiceShrink.PH_FOUND, x.phase());
        // The last trial ends the procedure in the same call.
        Check.due("shrink(1)", 1, x.shrink(1));
        isAt(x, "[0]", "[0]", "[0, 0, 0, 0, 0, 0]", 4, 2);
        Check.due("phase()", ChoiceShrink.PH_DONE, x.phase());
        Check.due("O", "[1, 5, 1, 6, 1, 7, 0]", State.original(x).toString());
    }

    private static void zeroes() {
        int[][] lastIsNot9 = {{PUSH, 3}, {VAL, 0}, {PUSH, 9}, {ChoiceShrink.OP_EQ, 0}, {ChoiceShrink.OP_NOT, 0}};
        ChoiceShrink x = Make.fed(8, Make.ints(4, 255), lastIsNot9, 5, 6, 7, 9);
        x.replay();
        Check.due("shrink(8)", 8, x.shrink(8));
        isAt(x, "[5, 6, 7, 9]", "[5, 6, 7, 9]", "[2, 4, 0, 0, 0, 0]", 8, 0);
        Check.due("shrink(1)", 1, x.shrink(1));
        isAt(x, "[5, 6, 7, 9]", "[5, 6, 7, 9]", "[2, 2, 0, 0, 0, 0]", 9, 0);
        Check.due("shrink(1)", 1, x.shrink(1));
        isAt(x, "[0, 0, 7, 9]", "[0, 0, 7, 9]", "[2, 2, 1, 0, 0, 1]", 10, 1);
        Check.due("shrink(1)", 1, x.shrink(1));
        isAt(x, "[0, 0, 0, 9]", "[0, 0, 0, 9]", "[2, 2, 2, 0, 0, 1]", 11, 2);
        Check.due("shrink(1)", 1, x.shrink(1));
        // The three zeros are passed over.
        isAt(x, "[0, 0, 0, 9]", "[0, 0, 0, 9]", "[2, 1, 3, 0, 0, 1]", 12, 2);
        Check.due("shrink(1)", 1, x.shrink(1));
        isAt(x, "[0, 0, 0, 9]", "[0, 0, 0, 9]", "[3, 1, 3, 0, 9, 1]", 13, 2);
        Check.due("shrink(1)", 1, x.shrink(1));
        isAt(x, "[0, 0, 0, 9]", "[0, 0, 0, 9]", "[3, 1, 3, 5, 9, 1]", 14, 2);
        Check.due("shrink(64)", 16, x.shrink(64));
        isAt(x, "[0, 0, 0, 9]", "[0, 0, 0, 9]", "[0, 0, 0, 0, 0, 0]", 30, 2);
        Check.due("phase()", ChoiceShrink.PH_DONE, x.phase());
    }

    /** Fails where the first cell is 3, or is 6 in a value of three cells. */
    private static void lowersAndShortens() {
        int[][] gen = {{ChoiceShrink.G_PAIR, 0}, {ChoiceShrink.G_INT, 255},
            {ChoiceShrink.G_LIST, 0}, {ChoiceShrink.G_INT, 255}};
        int[][] program = {
            {PUSH, 0}, {VAL, 0}, {PUSH, 3}, {ChoiceShrink.OP_EQ, 0},
            {PUSH, 0}, {VAL, 0}, {PUSH, 6}, {ChoiceShrink.OP_EQ, 0},
            {ChoiceShrink.OP_LEN, 0}, {PUSH, 3}, {ChoiceShrink.OP_EQ, 0}, {ChoiceShrink.OP_MUL, 0},
            {ChoiceShrink.OP_ADD, 0}, {ChoiceShrink.OP_NOT, 0}};
        ChoiceShrink x = Make.fed(8, gen, program, 6, 1, 9, 0);
        Check.due("replay()", ChoiceShrink.R_FAILS, x.replay());
        Check.due("shrink(14)", 14, x.shrink(14));
        isAt(x, "[6, 1, 0, 0]", "[6, 1, 0]", "[3, 1, 0, 0, 6, 1]", 14, 1);
        Check.due("shrink(1)", 1, x.shrink(1));
        isAt(x, "[3, 1, 0, 0]", "[3, 1, 0]", "[3, 1, 0, 0, 3, 1]", 15, 2);
        Check.due("shrink(1)", 1, x.shrink(1));
        isAt(x, "[3, 1, 0, 0]", "[3, 1, 0]", "[3, 1, 0, 2, 3, 1]", 16, 2);
        Check.due("shrink(1)", 1, x.shrink(1));
        isAt(x, "[3, 1, 0, 0]", "[3, 1, 0]", "[3, 1, 1, 0, 1, 1]", 17, 2);
        // The lowered list choice ends the list, so only two choices are consumed.
        Check.due("shrink(1)", 1, x.shrink(1));
        isAt(x, "[3, 0]", "[3, 0]", "[4, 1, 0, 0, 0, 1]", 18, 3);
        Check.due("shrink(1)", 1, x.shrink(1));
        isAt(x, "[3, 0]", "[3, 0]", "[1, 2, 0, 0, 0, 0]", 19, 3);
        Check.due("shrink(64)", 8, x.shrink(64));
        isAt(x, "[3, 0]", "[3, 0]", "[0, 0, 0, 0, 0, 0]", 27, 3);
        Check.due("phase()", ChoiceShrink.PH_DONE, x.phase());
    }

    private static void sorts() {
        ChoiceShrink x = sevenThree();
        Check.due("shrink(11)", 11, x.shrink(11));
        isAt(x, "[7, 3]", "[7, 3]", "[4, 1, 0, 0, 0, 0]", 11, 0);
        Check.due("shrink(1)", 1, x.shrink(1));
        isAt(x, "[3, 7]", "[3, 7]", "[1, 2, 0, 0, 0, 0]", 12, 1);
        Check.due("shrink(64)", 11, x.shrink(64));
        isAt(x, "[3, 7]", "[3, 7]", "[0, 0, 0, 0, 0, 0]", 23, 1);
        Check.due("O", "[7, 3]", State.original(x).toString());
    }

    private static void restsBeforeEveryTrial() {
        String[] rests = {
            "[1, 1, 0, 0, 0, 0]", "[1, 1, 1, 0, 0, 0]",
            "[2, 2, 0, 0, 0, 0]", "[2, 1, 0, 0, 0, 0]", "[2, 1, 1, 0, 0, 0]",
            "[3, 1, 0, 0, 7, 0]", "[3, 1, 0, 4, 7, 0]", "[3, 1, 0, 6, 7, 0]",
            "[3, 1, 1, 0, 3, 0]", "[3, 1, 1, 2, 3, 0]",
            "[4, 1, 0, 0, 0, 0]",
            "[1, 2, 0, 0, 0, 0]", "[1, 1, 0, 0, 0, 0]", "[1, 1, 1, 0, 0, 0]",
            "[2, 2, 0, 0, 0, 0]", "[2, 1, 0, 0, 0, 0]", "[2, 1, 1, 0, 0, 0]",
            "[3, 1, 0, 0, 3, 0]", "[3, 1, 0, 2, 3, 0]",
            "[3, 1, 1, 0, 7, 0]", "[3, 1, 1, 4, 7, 0]", "[3, 1, 1, 6, 7, 0]",
            "[0, 0, 0, 0, 0, 0]"};
        ChoiceShrink x = sevenThree();
        Check.due("cursor not started", "[0, 0, 0, 0, 0, 0]", State.cursor(x).toString());
        for (int trial = 1; trial <= rests.length; trial++) {
            Check.due("shrink(1)", 1, x.shrink(1));
            Check.due("cursor after trial " + trial, rests[trial - 1], State.cursor(x).toString());
            int phase = trial < rests.length ? ChoiceShrink.PH_FOUND : ChoiceShrink.PH_DONE;
            Check.due("phase() after trial " + trial, phase, x.phase());
        }
    }

    private static void anyBudgetsGiveTheSame() {
        for (int budget = 1; budget <= 25; budget++) {
            ChoiceShrink whole = sevenThree();
            ChoiceShrink parts = sevenThree();
            int sum = 0;
            for (int call = 0; call < 25 && parts.phase() == ChoiceShrink.PH_FOUND; call++) {
                int left = 23 - sum;
                int due = left < budget ? left : budget;
                Check.due("shrink(" + budget + ")", due, parts.shrink(budget));
                sum += due;
            }
            Check.due("shrink(64)", 23, whole.shrink(64));
            Check.due("all after shrinking by " + budget, State.of(whole), State.of(parts));
        }
    }

    private static void leavesTheRest() {
        ChoiceShrink x = Make.tester(7, 16, Make.LIST_OF_INT, Make.NEVER);
        Make.feed(x, 4, 5);
        Check.due("run(16)", 1, x.run(16));
        String original = State.original(x).toString();
        int state = x.stat(7);
        for (int call = 0; call < 99 && x.phase() == ChoiceShrink.PH_FOUND; call++) {
            x.shrink(1);
            Check.due("O", original, State.original(x).toString());
            Check.due("stat(2)", 2, x.stat(2));
            Check.due("stat(3)", 1, x.stat(3));
            Check.due("stat(4)", 2, x.stat(4));
            Check.due("stat(5)", 1, x.stat(5));
            Check.due("stat(7)", state, x.stat(7));
        }
        Check.due("phase()", ChoiceShrink.PH_DONE, x.phase());
        Check.due("S", "[0]", State.sequence(x).toString());
    }

    private static void aMinimalOneEndsUnchanged() {
        ChoiceShrink x = Make.fed(8, Make.LIST_OF_INT, Make.NEVER, 0);
        x.replay();
        Check.due("shrink(64)", 1, x.shrink(64));
        isAt(x, "[0]", "[0]", "[0, 0, 0, 0, 0, 0]", 1, 0);
        Check.due("phase()", ChoiceShrink.PH_DONE, x.phase());
    }

    /** Eight elements of three ints take 32 choices; it fails only where there are all eight. */
    private static void aSequenceOfTheGreatestLength() {
        int[][] gen = {{ChoiceShrink.G_LIST, 0}, {ChoiceShrink.G_PAIR, 0}, {ChoiceShrink.G_INT, 255},
            {ChoiceShrink.G_PAIR, 0}, {ChoiceShrink.G_INT, 255}, {ChoiceShrink.G_INT, 255}};
        int[][] lengthIsNot25 = {{ChoiceShrink.OP_LEN, 0}, {PUSH, 25}, {ChoiceShrink.OP_EQ, 0},
            {ChoiceShrink.OP_NOT, 0}};
        ChoiceShrink x = Make.tester(1, 32, gen, lengthIsNot25);
        String s = "";
        String v = "";
        for (int element = 0; element < 8; element++) {
            Make.feed(x, 2, 9, 9, 9);
            s += ", 1, 0, 0, 0";
            v += ", 0, 0, 0";
        }
        Check.due("replay()", ChoiceShrink.R_FAILS, x.replay());
        Check.due("seqLength()", 32, x.seqLength());
        for (int call = 0; call < 5; call++) {
            Check.due("shrink(64)", 64, x.shrink(64));
        }
        Check.due("shrink(64)", 24, x.shrink(64));
        isAt(x, "[" + s.substring(2) + "]", "[8" + v + "]", "[0, 0, 0, 0, 0, 0]", 344, 24);
        Check.due("phase()", ChoiceShrink.PH_DONE, x.phase());
    }

    private static ChoiceShrink sevenThree() {
        ChoiceShrink x = Make.fed(8, Make.ints(2, 255), Make.firstTwoDoNotAddUpTo(10), 7, 3);
        x.replay();
        return x;
    }

    private static void isAt(ChoiceShrink x, String s, String v, String cursor, int trials, int accepted) {
        String after = " after " + trials + " trials";
        Check.due("S" + after, s, State.sequence(x).toString());
        Check.due("V" + after, v, State.value(x).toString());
        Check.due("cursor" + after, cursor, State.cursor(x).toString());
        Check.due("stat(0)" + after, trials, x.stat(0));
        Check.due("stat(1)" + after, accepted, x.stat(1));
    }

    private static void refuses(ChoiceShrink x) {
        for (int budget : new int[] {1, 64, 0, -1}) {
            String before = State.of(x);
            Check.due("shrink(" + budget + ")", -1, x.shrink(budget));
            Check.due("all after a refused shrink", before, State.of(x));
        }
    }
}
