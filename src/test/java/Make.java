import java.util.ArrayList;
import java.util.List;

/** Makes objects that are ready to be tested. */
final class Make {
    /** The property that always fails, and the one that always holds. */
    static final int[][] NEVER = {{ChoiceShrink.OP_PUSH, 0}};
    static final int[][] ALWAYS = {{ChoiceShrink.OP_PUSH, 1}};

    /** A list of ints 0..255. */
    static final int[][] LIST_OF_INT = {{ChoiceShrink.G_LIST, 0}, {ChoiceShrink.G_INT, 255}};

    private Make() {
    }

    static ChoiceShrink tester(int seed, int cap, int[][] gen, int[][] program) {
        ChoiceShrink x = new ChoiceShrink(seed, cap);
        for (int[] node : gen) {
            x.addGen(node[0], node[1]);
        }
        for (int[] instruction : program) {
            x.addOp(instruction[0], instruction[1]);
        }
        return x;
    }

    static ChoiceShrink fed(int cap, int[][] gen, int[][] program, int... choices) {
        ChoiceShrink x = tester(1, cap, gen, program);
        feed(x, choices);
        return x;
    }

    static void feed(ChoiceShrink x, int... choices) {
        for (int c : choices) {
            x.pushChoice(c);
        }
    }

    /** A generator of count ints with this bound, each pair holding an int and the rest. */
    static int[][] ints(int count, int bound) {
        List<int[]> nodes = new ArrayList<>();
        for (int left = count; left > 1; left--) {
            nodes.add(new int[] {ChoiceShrink.G_PAIR, 0});
            nodes.add(new int[] {ChoiceShrink.G_INT, bound});
        }
        nodes.add(new int[] {ChoiceShrink.G_INT, bound});
        return nodes.toArray(new int[0][]);
    }

    /** Fails at exactly the values whose first two cells add up to sum. */
    static int[][] firstTwoDoNotAddUpTo(int sum) {
        return new int[][] {
            {ChoiceShrink.OP_PUSH, 0}, {ChoiceShrink.OP_VAL, 0},
            {ChoiceShrink.OP_PUSH, 1}, {ChoiceShrink.OP_VAL, 0},
            {ChoiceShrink.OP_ADD, 0}, {ChoiceShrink.OP_PUSH, sum},
            {ChoiceShrink.OP_EQ, 0}, {ChoiceShrink.OP_NOT, 0}};
    }
}
