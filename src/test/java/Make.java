import java.util.ArrayList;
import java.util.Arrays;
import java.util.List;

/** Makes objects that are ready to be tested, and the generators and properties that they are given. */
final class Make {
    static final int LEAST = Integer.MIN_VALUE;
    static final int GREATEST = Integer.MAX_VALUE;

    static final int[][] NOTHING = {};

    /** The property that always fails, and the one that always holds. */
    static final int[][] NEVER = {{ChoiceShrink.OP_PUSH, 0}};
    static final int[][] ALWAYS = {{ChoiceShrink.OP_PUSH, 1}};

    /** A list of ints 0..255. */
    static final int[][] LIST_OF_INT = {{ChoiceShrink.G_LIST, 0}, {ChoiceShrink.G_INT, 255}};

    /** A list of three ints each: its eight elements take 32 choices, the most there can be, and give 25 cells. */
    static final int[][] LIST_OF_THREE = joined(new int[][] {{ChoiceShrink.G_LIST, 0}}, ints(3, 255));

    private Make() {
    }

    static ChoiceShrink tester(int seed, int cap, int[][] gen, int[][] program) {
        ChoiceShrink x = new ChoiceShrink(seed, cap);
        for (int[] node : gen) {
            x.addGen(node[0], node[1]);
        }
        for (int[] instruction : program) {
            x.addOp(instruction[0], instruction[1]);
        }
        return x;
    }

    static ChoiceShrink fed(int cap, int[][] gen, int[][] program, int... choices) {
        ChoiceShrink x = tester(1, cap, gen, program);
        feed(x, choices);
        return x;
    }

    /** Fed and replayed, and so found. */
    static ChoiceShrink found(int cap, int[][] gen, int[][] program, int... choices) {
        ChoiceShrink x = fed(cap, gen, program, choices);
        Check.due("replay()", ChoiceShrink.R_FAILS, x.replay());
        return x;
    }

    static void feed(ChoiceShrink x, int... choices) {
        for (int c : choices) {
            x.pushChoice(c);
        }
    }

    /** A generator of count ints with this bound, each pair holding an int and the rest. */
    static int[][] ints(int count, int bound) {
        List<int[]> nodes = new ArrayList<>();
        for (int left = count; left > 1; left--) {
            nodes.add(new int[] {ChoiceShrink.G_PAIR, 0});
            nodes.add(new int[] {ChoiceShrink.G_INT, bound});
        }
        nodes.add(new int[] {ChoiceShrink.G_INT, bound});
        return nodes.toArray(new int[0][]);
    }

    /** Nodes or instructions, one part behind the other. */
    static int[][] joined(int[][]... parts) {
        List<int[]> all = new ArrayList<>();
        for (int[][] part : parts) {
            all.addAll(List.of(part));
        }
        return all.toArray(new int[0][]);
    }

    static int[][] repeated(int times, int... node) {
        int[][] all = new int[times][];
        Arrays.fill(all, node);
        return all;
    }

    /** Instructions from their numbers in turn: op, arg, op, arg. */
    static int[][] program(int... flat) {
        int[][] program = new int[flat.length / 2][];
        for (int at = 0; at < program.length; at++) {
            program[at] = new int[] {flat[2 * at], flat[2 * at + 1]};
        }
        return program;
    }

    /** Fails at exactly the values whose first cells add up to sum. */
    static int[][] sumIsNot(int cells, int sum) {
        int[][] program = NOTHING;
        for (int i = 0; i < cells; i++) {
            program = joined(program, new int[][] {{ChoiceShrink.OP_PUSH, i}, {ChoiceShrink.OP_VAL, 0}});
        }
        return joined(program, repeated(cells - 1, ChoiceShrink.OP_ADD, 0),
            new int[][] {{ChoiceShrink.OP_PUSH, sum}, {ChoiceShrink.OP_EQ, 0}, {ChoiceShrink.OP_NOT, 0}});
    }

    /** Fails at exactly the values that begin with these cells, of which six are the most that 32 instructions tell. */
    static int[][] doesNotBeginWith(int... cells) {
        int[][] program = NOTHING;
        for (int i = 0; i < cells.length; i++) {
            int[][] equal = {{ChoiceShrink.OP_PUSH, i}, {ChoiceShrink.OP_VAL, 0},
                {ChoiceShrink.OP_PUSH, cells[i]}, {ChoiceShrink.OP_EQ, 0}};
            program = joined(program, equal, i == 0 ? NOTHING : new int[][] {{ChoiceShrink.OP_MUL, 0}});
        }
        return joined(program, new int[][] {{ChoiceShrink.OP_NOT, 0}});
    }

    /** Fails at exactly the values of this many cells. */
    static int[][] lengthIsNot(int cells) {
        return new int[][] {{ChoiceShrink.OP_LEN, 0}, {ChoiceShrink.OP_PUSH, cells}, {ChoiceShrink.OP_EQ, 0},
            {ChoiceShrink.OP_NOT, 0}};
    }
}
