/** Promise 5: replay, and the generation from a fed sequence (Terms). */
public final class ReplayTest {
    private static final int INT = ChoiceShrink.G_INT;
    private static final int LIST = ChoiceShrink.G_LIST;
    private static final int PAIR = ChoiceShrink.G_PAIR;

    public static void main(String[] args) {
        refusesWithoutGeneratorOrProgram();
        refusesOutsideIdle();
        answersTheOutcome();
        findsTheConsumedPrefix();
        changesNothingUnlessItFails();
        keepsTheBuffer();
        leavesRandomStateAndCases();
        generatesInts();
        generatesLists();
        generatesNestedShapes();
        isInvalidWhenChoicesRunOut();
        Check.end("ReplayTest");
    }

    private static void refusesWithoutGeneratorOrProgram() {
        refuses(Make.fed(8, new int[0][], Make.NEVER, 1, 2));
        refuses(Make.fed(8, new int[][] {{PAIR, 0}, {INT, 5}}, Make.NEVER, 1, 2));
        refuses(Make.fed(8, new int[][] {{LIST, 0}}, Make.NEVER, 1, 2));
        refuses(Make.fed(8, Make.ints(1, 255), new int[0][], 1, 2));
        refuses(new ChoiceShrink(1, 8));
    }

    private static void refusesOutsideIdle() {
        ChoiceShrink x = Make.fed(8, Make.ints(2, 255), Make.firstTwoDoNotAddUpTo(10), 7, 3);
        Check.due("replay()", ChoiceShrink.R_FAILS, x.replay());
        refuses(x);
        x.shrink(7);
        refuses(x);
        x.shrink(64);
        Check.due("phase()", ChoiceShrink.PH_DONE, x.phase());
        refuses(x);
    }

    private static void answersTheOutcome() {
        int[][] gen = Make.ints(2, 255);
        int[][] property = Make.firstTwoDoNotAddUpTo(10);
        Check.due("replay of 7, 3", ChoiceShrink.R_FAILS, Make.fed(8, gen, property, 7, 3).replay());
        Check.due("replay of 7, 4", ChoiceShrink.R_HOLDS, Make.fed(8, gen, property, 7, 4).replay());
        Check.due("replay of 7", ChoiceShrink.R_INVALID, Make.fed(8, gen, property, 7).replay());
        Check.due("replay of nothing", ChoiceShrink.R_INVALID, Make.fed(8, gen, property).replay());
        Check.due("replay of 7, 3, 1", ChoiceShrink.R_FAILS, Make.fed(8, gen, property, 7, 3, 1).replay());
    }

    private static void findsTheConsumedPrefix() {
        ChoiceShrink x = Make.fed(8, Make.LIST_OF_INT, Make.NEVER, 9, 70, 1, 80, 0, 55, 66);
        Check.due("replay()", ChoiceShrink.R_FAILS, x.replay());
        Check.due("all after replay",
            "phase 1 S [9, 70, 1, 80, 0] O [9, 70, 1, 80, 0] V [2, 70, 80] "
            + "stat [0, 0, 2, 1, 7, 0, 1, 1] cursor [0, 0, 0, 0, 0, 0]", State.of(x));
    }

    private static void changesNothingUnlessItFails() {
        ChoiceShrink holds = Make.fed(8, Make.ints(2, 255), Make.ALWAYS, 7, 3);
        String before = State.of(holds);
        Check.due("replay()", ChoiceShrink.R_HOLDS, holds.replay());
        Check.due("all after it held", before, State.of(holds));
        ChoiceShrink invalid = Make.fed(8, Make.ints(3, 255), Make.NEVER, 7, 3);
        before = State.of(invalid);
        Check.due("replay()", ChoiceShrink.R_INVALID, invalid.replay());
        Check.due("all after it was invalid", before, State.of(invalid));
    }

    private static void keepsTheBuffer() {
        ChoiceShrink x = Make.fed(8, Make.ints(3, 255), Make.NEVER, 7, 3);
        Check.due("replay()", ChoiceShrink.R_INVALID, x.replay());
        Check.due("replay() again", ChoiceShrink.R_INVALID, x.replay());
        Check.due("pushChoice(4)", 3, x.pushChoice(4));
        Check.due("replay() of one more", ChoiceShrink.R_FAILS, x.replay());
        Check.due("S", "[7, 3, 4]", State.sequence(x).toString());
        Check.due("stat(4)", 3, x.stat(4));
        Check.due("pushChoice(5)", 4, x.pushChoice(5));
        Check.due("S after pushChoice", "[7, 3, 4]", State.sequence(x).toString());
    }

    private static void leavesRandomStateAndCases() {
        ChoiceShrink x = Make.tester(77, 8, Make.ints(1, 255), Make.ALWAYS);
        x.run(3);
        int state = x.stat(7);
        x.pushChoice(9);
        Check.due("replay()", ChoiceShrink.R_HOLDS, x.replay());
        Check.due("stat(7)", state, x.stat(7));
        Check.due("stat(5)", 3, x.stat(5));
        x.addOp(ChoiceShrink.OP_NOT, 0);
        Check.due("replay()", ChoiceShrink.R_FAILS, x.replay());
        Check.due("S", "[9]", State.sequence(x).toString());
        Check.due("stat(7)", state, x.stat(7));
        Check.due("stat(5)", 3, x.stat(5));
    }

    private static void generatesInts() {
        generates(new int[][] {{INT, 255}}, "[255]", "[255]", 255);
        generates(new int[][] {{INT, 255}}, "[0]", "[0]", 0);
        generates(new int[][] {{INT, 254}}, "[255]", "[0]", 255);
        generates(new int[][] {{INT, 254}}, "[254]", "[254]", 254);
        generates(new int[][] {{INT, 0}}, "[200]", "[0]", 200);
        generates(new int[][] {{INT, 9}}, "[57]", "[7]", 57);
        generates(new int[][] {{INT, 9}}, "[10]", "[0]", 10);
        generates(new int[][] {{PAIR, 0}, {INT, 9}, {INT, 99}}, "[123, 234]", "[3, 34]", 123, 234);
    }

    private static void generatesLists() {
        int[][] list = {{LIST, 0}, {INT, 99}};
        generates(list, "[0]", "[0]", 0);
        generates(list, "[1, 5, 0]", "[1, 5]", 1, 5, 0);
        generates(list, "[255, 100, 4, 0, 0]", "[2, 0, 0]", 255, 100, 4, 0, 0);
        // The eighth element ends the list without a further choice.
        generates(list, "[1, 1, 1, 2, 1, 3, 1, 4, 1, 5, 1, 6, 1, 7, 1, 8]", "[8, 1, 2, 3, 4, 5, 6, 7, 8]",
            1, 1, 1, 2, 1, 3, 1, 4, 1, 5, 1, 6, 1, 7, 1, 8, 1, 9, 0);
        generates(list, "[1, 1, 1, 2, 1, 3, 1, 4, 1, 5, 1, 6, 1, 7, 0]", "[7, 1, 2, 3, 4, 5, 6, 7]",
            1, 1, 1, 2, 1, 3, 1, 4, 1, 5, 1, 6, 1, 7, 0, 8);
    }

    private static void generatesNestedShapes() {
        generates(new int[][] {{PAIR, 0}, {LIST, 0}, {INT, 255}, {INT, 255}},
            "[3, 4, 0, 5]", "[1, 4, 5]", 3, 4, 0, 5, 6);
        generates(new int[][] {{PAIR, 0}, {INT, 255}, {LIST, 0}, {INT, 255}},
            "[9, 3, 4, 0]", "[9, 1, 4]", 9, 3, 4, 0, 5);
        generates(new int[][] {{LIST, 0}, {PAIR, 0}, {INT, 255}, {INT, 9}},
            "[1, 20, 21, 1, 30, 31, 0]", "[2, 20, 1, 30, 1]", 1, 20, 21, 1, 30, 31, 0);
        generates(new int[][] {{LIST, 0}, {LIST, 0}, {INT, 255}},
            "[1, 1, 7, 1, 8, 0, 1, 0, 1, 1, 9, 0, 0]", "[3, 2, 7, 8, 0, 1, 9]",
            1, 1, 7, 1, 8, 0, 1, 0, 1, 1, 9, 0, 0);
        generates(new int[][] {{PAIR, 0}, {PAIR, 0}, {INT, 255}, {LIST, 0}, {INT, 255}, {PAIR, 0}, {INT, 255}, {INT, 255}},
            "[1, 2, 3, 0, 4, 5]", "[1, 1, 3, 4, 5]", 1, 2, 3, 0, 4, 5, 6);
        generates(new int[][] {{LIST, 0}, {PAIR, 0}, {LIST, 0}, {INT, 255}, {LIST, 0}, {INT, 9}},
            "[1, 1, 50, 0, 0, 1, 0, 1, 60, 0, 0]", "[2, 1, 50, 0, 0, 1, 0]", 1, 1, 50, 0, 0, 1, 0, 1, 60, 0, 0);
        eightEmptyLists();
    }

    /** Eight elements fill the outer list although the inner ones are empty. */
    private static void eightEmptyLists() {
        generates(new int[][] {{LIST, 0}, {LIST, 0}, {INT, 255}},
            "[1, 0, 1, 0, 1, 0, 1, 0, 1, 0, 1, 0, 1, 0, 1, 0]", "[8, 0, 0, 0, 0, 0, 0, 0, 0]",
            1, 0, 1, 0, 1, 0, 1, 0, 1, 0, 1, 0, 1, 0, 1, 0, 1, 0);
    }

    private static void isInvalidWhenChoicesRunOut() {
        int[][] list = {{LIST, 0}, {INT, 99}};
        isInvalid(list);
        isInvalid(list, 1);
        isInvalid(list, 1, 5);
        isInvalid(list, 1, 5, 1);
        isInvalid(list, 1, 1, 1, 2, 1, 3, 1, 4, 1, 5, 1, 6, 1, 7);
        isInvalid(list, 1, 1, 1, 2, 1, 3, 1, 4, 1, 5, 1, 6, 1, 7, 1);
        isInvalid(new int[][] {{LIST, 0}, {LIST, 0}, {INT, 255}}, 1, 0);
        isInvalid(new int[][] {{PAIR, 0}, {LIST, 0}, {INT, 255}, {INT, 255}}, 0);
        isInvalid(Make.ints(8, 255), 1, 2, 3, 4, 5, 6, 7);
    }

    private static void generates(int[][] gen, String prefix, String value, int... choices) {
        ChoiceShrink x = Make.fed(32, gen, Make.NEVER, choices);
        Check.due("replay()", ChoiceShrink.R_FAILS, x.replay());
        Check.due("S of a replay", prefix, State.sequence(x).toString());
        Check.due("O of a replay", prefix, State.original(x).toString());
        Check.due("V of a replay", value, State.value(x).toString());
        Check.due("stat(4)", choices.length, x.stat(4));
    }

    private static void isInvalid(int[][] gen, int... choices) {
        ChoiceShrink x = Make.fed(32, gen, Make.NEVER, choices);
        String before = State.of(x);
        Check.due("replay() of too few choices", ChoiceShrink.R_INVALID, x.replay());
        Check.due("all after an invalid replay", before, State.of(x));
    }

    private static void refuses(ChoiceShrink x) {
        String before = State.of(x);
        Check.due("replay()", -1, x.replay());
        Check.due("all after a refused replay", before, State.of(x));
    }
}
