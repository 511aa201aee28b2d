import java.util.function.IntFunction;

/** "What it is", the Term "State" and "Not promised": the class as a whole. */
public final class OverviewTest {
    private static final int INT = ChoiceShrink.G_INT;
    private static final int LIST = ChoiceShrink.G_LIST;
    private static final int PAIR = ChoiceShrink.G_PAIR;

    private static final int[][] LIST_THEN_INT = {{PAIR, 0}, {LIST, 0}, {INT, 99}, {INT, 6}};

    public static void main(String[] args) {
        replaysWhatItRecords();
        turnsChoicesIntoAFlatValue();
        runsAStackProgramWithJumps();
        findsByReplayOrByRun();
        shrinksUntilARoundChangesNothing();
        readsEverythingBack();
        keepsAStatePerObject();
        argumentsThatAreIgnoredShowNowhere();
        Check.end("OverviewTest");
    }

    private static void replaysWhatItRecords() {
        Check.says("ChoiceShrink is a small property-based tester built on recorded choice sequences.");
        for (int seed = 0; seed < 50; seed++) {
            ChoiceShrink x = foundByRun(seed);
            replaysAs(x);
            shrinkWhole(x, 1 + seed);
            replaysAs(x);
        }
    }

    /** Fails where there are two elements at least. */
    private static ChoiceShrink foundByRun(int seed) {
        ChoiceShrink x = Make.tester(seed, 32, LIST_THEN_INT, Make.program(
            ChoiceShrink.OP_LEN, 0, ChoiceShrink.OP_PUSH, 4, ChoiceShrink.OP_LT, 0));
        for (int call = 0; call < 100 && x.phase() == ChoiceShrink.PH_IDLE; call++) {
            x.run(16);
        }
        Check.due("phase() with seed " + seed, ChoiceShrink.PH_FOUND, x.phase());
        return x;
    }

    /** Another object, fed with S, comes to the same S and V. */
    private static void replaysAs(ChoiceShrink x) {
        ChoiceShrink y = Make.tester(1, 32, LIST_THEN_INT, Make.NEVER);
        State.sequence(x).forEach(y::pushChoice);
        Check.due("replay of " + State.sequence(x), ChoiceShrink.R_FAILS, y.replay());
        Check.due("S", State.sequence(x).toString(), State.sequence(y).toString());
        Check.due("V", State.value(x).toString(), State.value(y).toString());
    }

    private static void shrinkWhole(ChoiceShrink x, int budget) {
        for (int call = 0; call < 5000 && x.phase() == ChoiceShrink.PH_FOUND; call++) {
            x.shrink(budget);
        }
        Check.due("phase() after shrinking", ChoiceShrink.PH_DONE, x.phase());
    }

    private static void turnsChoicesIntoAFlatValue() {
        Check.says("A generator tree of bounded ints, lists and pairs is added node by node; it turns a sequence of "
            + "choices (ints 0..255) into a flat value of at most 32 int cells.");
        int[][] gen = {{PAIR, 0}, {LIST, 0}, {PAIR, 0}, {INT, 9}, {LIST, 0}, {INT, 99}, {INT, 255}};
        ChoiceShrink x = new ChoiceShrink(1, 32);
        for (int node = 0; node < gen.length; node++) {
            Check.due("addGen of node " + node, node, x.addGen(gen[node][0], gen[node][1]));
        }
        x.addOp(ChoiceShrink.OP_PUSH, 0);
        Make.feed(x, 1, 255, 1, 255, 2, 150, 0, 255, 14, 0, 0, 255);
        Check.due("replay()", ChoiceShrink.R_FAILS, x.replay());
        Check.due("V", "[2, 5, 2, 55, 50, 4, 0, 255]", State.value(x).toString());
        for (int call = 0; call < 2000; call++) {
            x.discard();
            x.run(16);
            Check.due("at most 32 cells", 1, x.valueLength() <= 32 ? 1 : 0);
            for (int cell : State.value(x)) {
                Check.due("a cell, " + cell, 1, cell >= 0 && cell <= 255 ? 1 : 0);
            }
        }
    }

    /** Adds up all cells in a loop, with 12 steps for each and 8 beside them: 248 steps for 20 cells. */
    private static void runsAStackProgramWithJumps() {
        Check.says("A property is a short stack program with jumps, run under a step limit on that value.");
        IntFunction<int[][]> sumIsBelow = bound -> Make.program(
            ChoiceShrink.OP_PUSH, 0, ChoiceShrink.OP_PUSH, 0,
            ChoiceShrink.OP_OVER, 0, ChoiceShrink.OP_LEN, 0, ChoiceShrink.OP_LT, 0, ChoiceShrink.OP_JZ, 14,
            ChoiceShrink.OP_OVER, 0, ChoiceShrink.OP_VAL, 0, ChoiceShrink.OP_ADD, 0,
            ChoiceShrink.OP_SWAP, 0, ChoiceShrink.OP_PUSH, 1, ChoiceShrink.OP_ADD, 0, ChoiceShrink.OP_SWAP, 0,
            ChoiceShrink.OP_JMP, 2,
            ChoiceShrink.OP_PUSH, bound, ChoiceShrink.OP_LT, 0);
        int[] choices = {1, 10, 1, 20, 1, 30, 0};
        Check.due("3 + 10 + 20 + 30 < 64", ChoiceShrink.R_HOLDS,
            Make.fed(32, Make.LIST_OF_INT, sumIsBelow.apply(64), choices).replay());
        Check.due("3 + 10 + 20 + 30 < 63", ChoiceShrink.R_FAILS,
            Make.fed(32, Make.LIST_OF_INT, sumIsBelow.apply(63), choices).replay());
        int[][] listOfThreeThenInt = Make.joined(new int[][] {{PAIR, 0}}, Make.LIST_OF_THREE, Make.ints(1, 255));
        Check.due("20 cells", ChoiceShrink.R_HOLDS,
            Make.fed(32, listOfThreeThenInt, sumIsBelow.apply(99), elements(6, 3)).replay());
        int[][] listOfFour = Make.joined(new int[][] {{LIST, 0}}, Make.ints(4, 255));
        Check.due("21 cells", ChoiceShrink.R_FAILS,
            Make.fed(32, listOfFour, sumIsBelow.apply(99), elements(5, 4)).replay());
    }

    /** Choices of a list of this many elements, each of this many ints 0, with zeros behind. */
    private static int[] elements(int count, int ints) {
        int[] choices = new int[count * (ints + 1) + 2];
        for (int element = 0; element < count; element++) {
            choices[element * (ints + 1)] = 1;
        }
        return choices;
    }

    private static void findsByReplayOrByRun() {
        Check.says("A counterexample is found either by replaying a hand-fed choice sequence or by random cases drawn "
            + "from a fixed 32-bit linear congruential generator, which records every choice it draws.");
        for (int seed = 0; seed < 100; seed++) {
            ChoiceShrink drawn = Make.tester(seed, 32, LIST_THEN_INT, Make.NEVER);
            Check.due("run(1) with seed " + seed, 1, drawn.run(1));
            replaysAs(drawn);
            // Every draw advances the state once, and every draw is in the record.
            int state = seed;
            for (int draw = 0; draw < drawn.seqLength(); draw++) {
                state = state * 1103515245 + 12345;
            }
            Check.due("stat(7) with seed " + seed, state, drawn.stat(7));
            ChoiceShrink again = Make.tester(seed, 32, LIST_THEN_INT, Make.NEVER);
            again.run(1);
            Check.due("the same seed draws the same", State.of(drawn), State.of(again));
        }
    }

    private static void shrinksUntilARoundChangesNothing() {
        Check.says("The tester then shrinks the counterexample in resumable, budgeted calls, repeating rounds of four "
            + "passes over the choice sequence (deleting blocks, zeroing blocks, lowering single choices by binary "
            + "search, swapping descending adjacent pairs) until a full round changes nothing.");
        for (int seed = 0; seed < 50; seed++) {
            ChoiceShrink x = foundByRun(seed);
            ChoiceShrink y = foundByRun(seed);
            shrinkWhole(x, 1);
            shrinkWhole(y, 1 + seed);
            Check.due("all after shrinking by other budgets", State.of(x), State.of(y));
            String s = State.sequence(x).toString();
            y.discard();
            State.sequence(x).forEach(y::pushChoice);
            Check.due("replay of " + s, ChoiceShrink.R_FAILS, y.replay());
            shrinkWhole(y, 64);
            Check.due("S of one more round", s, State.sequence(y).toString());
            Check.due("accepted in one more round", 0, y.stat(1));
        }
    }

    private static void readsEverythingBack() {
        Check.says("The current sequence, the original sequence, the regenerated value, counters and the shrink cursor "
            + "can all be read back.");
        Check.due("all", "phase 1 S [20, 50] O [40, 50] V [20, 50] stat [12, 1, 3, 9, 2, 0, 1, 1] "
            + "cursor [3, 1, 1, 26, 50, 1]", State.of(Moment.lowering()));
    }

    /** Objects that are used by turns go on as if each were alone. */
    private static void keepsAStatePerObject() {
        Check.says("State. phase (PH_IDLE, PH_FOUND, PH_DONE); generator; program; manual buffer M (at most cap "
            + "choices); PRNG state; S, the current counterexample, with V its value; O, the original counterexample; "
            + "counters trials, accepted, cases; the shrink cursor.");
        ChoiceShrink idle = Make.fed(4, Make.ints(1, 9), Make.ALWAYS, 5, 6);
        ChoiceShrink first = Moment.lowering();
        ChoiceShrink second = Moment.sevenThree(7);
        String alone = State.everywhere(idle);
        first.shrink(1);
        second.shrink(1);
        idle.replay();
        Check.due("all of the first", State.everywhere(shrunkOn(Moment.lowering(), 1)), State.everywhere(first));
        Check.due("all of the second", State.everywhere(shrunkOn(Moment.sevenThree(7), 1)), State.everywhere(second));
        Check.due("all of the idle one", alone, State.everywhere(idle));
        second.discard();
        idle.run(16);
        first.shrink(3);
        Check.due("all of the first", State.everywhere(shrunkOn(Moment.lowering(), 4)), State.everywhere(first));
        Check.due("phase() of each", "0 1 0", idle.phase() + " " + first.phase() + " " + second.phase());
    }

    private static ChoiceShrink shrunkOn(ChoiceShrink x, int trials) {
        for (int trial = 0; trial < trials; trial++) {
            x.shrink(1);
        }
        return x;
    }

    private static void argumentsThatAreIgnoredShowNowhere() {
        Check.says("The arg of instructions other than OP_PUSH, OP_JZ and OP_JMP, and the bound of G_LIST and G_PAIR "
            + "nodes, have no observable effect;");
        for (int number : new int[] {Make.LEAST, -1, 1, 32, 33, 255, 256, Make.GREATEST}) {
            for (int seed = 0; seed < 10; seed++) {
                Check.due("all that is seen with " + number, lifeWith(seed, 0), lifeWith(seed, number));
            }
        }
    }

    /** All that is seen in the life of an object whose arguments that are ignored are this number. */
    private static String lifeWith(int seed, int ignored) {
        ChoiceShrink x = Make.tester(seed, 32,
            new int[][] {{PAIR, ignored}, {LIST, ignored}, {INT, 99}, {INT, 6}},
            Make.program(ChoiceShrink.OP_LEN, ignored, ChoiceShrink.OP_DUP, ignored, ChoiceShrink.OP_MUL, ignored,
                ChoiceShrink.OP_PUSH, 0, ChoiceShrink.OP_VAL, ignored, ChoiceShrink.OP_SWAP, ignored,
                ChoiceShrink.OP_OVER, ignored, ChoiceShrink.OP_DROP, ignored, ChoiceShrink.OP_ADD, ignored,
                ChoiceShrink.OP_PUSH, 13, ChoiceShrink.OP_SUB, ignored, ChoiceShrink.OP_PUSH, 0,
                ChoiceShrink.OP_LT, ignored, ChoiceShrink.OP_NOT, ignored, ChoiceShrink.OP_PUSH, 0,
                ChoiceShrink.OP_EQ, ignored));
        StringBuilder seen = new StringBuilder().append(x.run(16)).append(State.of(x));
        for (int call = 0; call < 200; call++) {
            seen.append(x.shrink(5)).append(State.of(x));
        }
        return seen.toString();
    }
}
