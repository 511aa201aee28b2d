import java.util.LinkedHashMap;
import java.util.Map;
import java.util.function.Supplier;

/** Objects at each moment of their life that the document tells apart, each time made anew. */
final class Moment {
    private static final int[][] TWO_INTS = Make.ints(2, 255);
    private static final int[][] ADDS_UP = Make.sumIsNot(2, 10);

    private Moment() {
    }

    /** Idle, and of the generator, the program and the buffer each one empty, begun or full somewhere. */
    static Map<String, Supplier<ChoiceShrink>> idle() {
        int[][] sixteenPairs = Make.repeated(16, ChoiceShrink.G_PAIR, 0);
        int[][] sixteenNodes = Make.joined(Make.repeated(15, ChoiceShrink.G_LIST, 0), Make.ints(1, 255));
        int[][] thirtyTwo = Make.joined(ADDS_UP, Make.repeated(24, ChoiceShrink.OP_NOT, 0));
        Map<String, Supplier<ChoiceShrink>> all = new LinkedHashMap<>();
        all.put("new", () -> new ChoiceShrink(7, 4));
        all.put("without a generator", () -> Make.fed(4, Make.NOTHING, ADDS_UP, 7, 3));
        all.put("one node short", () -> Make.fed(4, new int[][] {TWO_INTS[0], TWO_INTS[1]}, ADDS_UP, 7, 3));
        all.put("sixteen nodes, not complete", () -> Make.fed(4, sixteenPairs, ADDS_UP, 7, 3));
        all.put("sixteen nodes, complete", () -> Make.fed(4, sixteenNodes, ADDS_UP, 0));
        all.put("without a program", () -> Make.fed(4, TWO_INTS, Make.NOTHING, 7, 3));
        all.put("thirty-two instructions", () -> Make.fed(4, TWO_INTS, thirtyTwo, 7, 3));
        all.put("ready", () -> Make.fed(4, TWO_INTS, ADDS_UP, 7, 3));
        all.put("ready, with a full buffer", () -> Make.fed(4, TWO_INTS, ADDS_UP, 7, 3, 1, 2));
        all.put("ready, with a full buffer used whole", () -> Make.fed(4, Make.ints(4, 255), ADDS_UP, 7, 4, 1, 2));
        all.put("discarded", Moment::discarded);
        return all;
    }

    /** Found, not started and resting in each pass, with a buffer that has room and one that is full. */
    static Map<String, Supplier<ChoiceShrink>> found() {
        Map<String, Supplier<ChoiceShrink>> all = new LinkedHashMap<>();
        all.put("found", () -> sevenThree(0));
        all.put("found, with a full buffer", () -> Make.found(4, TWO_INTS, ADDS_UP, 7, 3, 1, 2));
        all.put("found by run", Moment::foundByRun);
        all.put("resting in pass 1", () -> sevenThree(1));
        all.put("resting in pass 2", () -> sevenThree(3));
        all.put("resting in pass 3", () -> sevenThree(7));
        all.put("resting in pass 4", () -> sevenThree(11));
        all.put("resting in round 2", () -> sevenThree(12));
        all.put("resting before the last trial", () -> sevenThree(22));
        all.put("resting with no field of the cursor at 0", Moment::lowering);
        return all;
    }

    static Map<String, Supplier<ChoiceShrink>> done() {
        Map<String, Supplier<ChoiceShrink>> all = new LinkedHashMap<>();
        all.put("done", () -> sevenThree(23));
        all.put("done, with a full buffer", Moment::doneAndFull);
        return all;
    }

    /** Shrinking 7, 3, which must add up to 10, takes 23 trials; the twelfth swaps the two. */
    static ChoiceShrink sevenThree(int trials) {
        ChoiceShrink x = Make.found(4, TWO_INTS, ADDS_UP, 7, 3);
        if (trials > 0) {
            Check.due("shrink(" + trials + ")", trials, x.shrink(trials));
        }
        return x;
    }

    /** Lowering the second of two choices, which must be 20 and 30 at least, in a round that has improved. */
    static ChoiceShrink lowering() {
        int[][] firstOrSecondIsLess = Make.program(
            ChoiceShrink.OP_PUSH, 0, ChoiceShrink.OP_VAL, 0, ChoiceShrink.OP_PUSH, 20, ChoiceShrink.OP_LT, 0,
            ChoiceShrink.OP_PUSH, 1, ChoiceShrink.OP_VAL, 0, ChoiceShrink.OP_PUSH, 30, ChoiceShrink.OP_LT, 0,
            ChoiceShrink.OP_ADD, 0);
        ChoiceShrink x = Make.found(4, TWO_INTS, firstOrSecondIsLess, 40, 50);
        // Six trials of deleting and zeroing, then 20, 10, 15, 18 and 19, then 25.
        Check.due("shrink(12)", 12, x.shrink(12));
        return x;
    }

    private static ChoiceShrink foundByRun() {
        ChoiceShrink x = Make.tester(7, 4, TWO_INTS, Make.NEVER);
        Check.due("run(1)", 1, x.run(1));
        return x;
    }

    private static ChoiceShrink doneAndFull() {
        ChoiceShrink x = sevenThree(23);
        Make.feed(x, 1, 2);
        return x;
    }

    private static ChoiceShrink discarded() {
        ChoiceShrink x = foundByRun();
        x.shrink(5);
        x.discard();
        Make.feed(x, 8, 2);
        return x;
    }
}
