import java.util.ArrayList;
import java.util.List;
import java.util.function.IntUnaryOperator;

/** All promises together: long made-up runs of calls, each answer and all that can be read held against the Model. */
public final class ModelTest {
    private static final int RUNS = 6000;

    private static final int INT = ChoiceShrink.G_INT;
    private static final int LIST = ChoiceShrink.G_LIST;
    private static final int PAIR = ChoiceShrink.G_PAIR;

    private static final int[] ODD_NUMBERS = {
        Integer.MIN_VALUE, -256, -33, -2, -1, 0, 1, 3, 4, 14, 15, 16, 17, 31, 32, 33, 64, 65, 255, 256, 1000,
        Integer.MAX_VALUE};

    private static final int[][][] SHAPES = {
        {{INT, 255}},
        {{LIST, 0}, {INT, 255}},
        {{LIST, 0}, {INT, 9}},
        {{LIST, 0}, {LIST, 0}, {INT, 20}},
        {{LIST, 0}, {PAIR, 0}, {INT, 255}, {INT, 3}},
        {{PAIR, 0}, {LIST, 0}, {INT, 30}, {LIST, 0}, {INT, 255}},
        {{PAIR, 0}, {INT, 255}, {LIST, 0}, {INT, 100}},
        {{PAIR, 0}, {PAIR, 0}, {INT, 99}, {LIST, 0}, {INT, 5}, {PAIR, 0}, {INT, 255}, {INT, 0}},
        {{LIST, 0}, {LIST, 0}, {LIST, 0}, {INT, 7}},
        Make.ints(2, 255),
        Make.ints(4, 255),
        Make.ints(5, 60)};

    // A fixed sequence of made-up numbers, so that every run of this test is the same.
    private static long made = 88172645463325252L;

    private static final List<String> calls = new ArrayList<>();
    private static ChoiceShrink x;
    private static Model model;

    private static final int[] accepted = new int[5];
    private static int done = 0;
    private static int rested = 0;

    public static void main(String[] args) {
        for (int run = 0; run < RUNS && Check.wrongSoFar() == 0; run++) {
            start();
            addGenerator();
            addProgram();
            use();
        }
        if (Check.wrongSoFar() > 0) {
            System.out.println("the run was: " + calls);
        }
        reachedEverything();
        Check.end("ModelTest");
    }

    /** Runs that never shrink would show little. */
    private static void reachedEverything() {
        for (int pass = 1; pass <= 4; pass++) {
            Check.due("pass " + pass + " had a trial accepted often", 1, accepted[pass] > 100 ? 1 : 0);
        }
        Check.due("shrinking was done often", 1, done > 1000 ? 1 : 0);
        Check.due("shrinking rested often", 1, rested > 1000 ? 1 : 0);
    }

    private static void start() {
        calls.clear();
        int seed = below(10) == 0 ? odd() : below(65536);
        int cap = below(10) == 0 ? odd() : 4 + below(29);
        calls.add("new(" + seed + ", " + cap + ")");
        x = new ChoiceShrink(seed, cap);
        model = new Model(seed, cap);
        same("new", 0, 0);
    }

    private static void addGenerator() {
        if (below(4) > 0) {
            for (int[] node : SHAPES[below(SHAPES.length)]) {
                addGen(node[0], node[1]);
            }
            return;
        }
        for (int node = 0; node < 17; node++) {
            int kind = below(12) == 0 ? odd() : below(5) < 2 ? INT : 1 + below(3);
            addGen(kind, below(12) == 0 ? odd() : below(256));
        }
    }

    private static void addProgram() {
        switch (below(6)) {
            case 0:
                addMadeUpProgram();
                break;
            case 1:
                addWeightedSum();
                break;
            case 2:
                addLengthAgainst();
                break;
            default:
                addHash();
                break;
        }
    }

    private static void addMadeUpProgram() {
        int length = 1 + below(34);
        for (int at = 0; at < length; at++) {
            int op = below(20) == 0 ? odd() : below(3) == 0 ? 0 : below(15);
            addOp(op, below(10) == 0 ? odd() : below(33));
        }
    }

    /** Compares a * V[p] + b * V[q] with a bound. */
    private static void addWeightedSum() {
        for (int term = 0; term < 2; term++) {
            addOp(0, below(6));
            addOp(1, 0);
            addOp(0, below(7) - 2);
            addOp(5, 0);
        }
        addOp(3, 0);
        addOp(0, below(400));
        addOp(below(4) == 0 ? 7 : 6, 0);
        if (below(3) == 0) {
            addOp(8, 0);
        }
    }

    private static void addLengthAgainst() {
        addOp(2, 0);
        addOp(0, below(12));
        addOp(6 + below(2), 0);
        if (below(2) == 0) {
            addOp(8, 0);
        }
    }

    /**
     * Folds the value as acc * factor + cell in a loop, then compares: a sum where the factor is 1. Large numbers make
     * it hard to foresee what fails; a sum times a large number also leaves pairs that can only be swapped.
     */
    private static void addHash() {
        int factor = below(2) == 0 ? 1 : below(2) == 0 ? 1 + below(5) : (int) next();
        boolean wild = factor < 0 || factor > 5 || below(2) == 0;
        int[][] program = {
            {0, 0}, {0, below(3)}, {12, 0}, {2, 0}, {6, 0}, {13, 16}, {0, factor}, {5, 0}, {12, 0}, {1, 0}, {3, 0},
            {10, 0}, {0, 1}, {3, 0}, {10, 0}, {14, 2},
            {0, wild ? (int) next() : 1}, {5, 0}, {0, wild ? (int) next() : below(500)}, {6, 0}};
        for (int[] instruction : program) {
            addOp(instruction[0], instruction[1]);
        }
        if (below(4) == 0) {
            addOp(8, 0);
        }
    }

    private static void use() {
        int length = 5 + below(40);
        for (int call = 0; call < length; call++) {
            switch (below(12)) {
                case 0:
                    count("run", x::run, model::run, below(6) == 0 ? odd() : 1 + below(16));
                    break;
                case 1:
                    feedAndReplay();
                    break;
                case 2:
                    count("pushChoice", x::pushChoice, model::pushChoice, below(6) == 0 ? odd() : below(256));
                    break;
                case 3:
                    if (below(4) == 0) {
                        discard();
                    }
                    break;
                case 4:
                    addOp(below(15), below(33));
                    break;
                default:
                    shrink();
                    break;
            }
        }
    }

    private static void shrink() {
        int before = model.phase();
        int budget = below(12) == 0 ? odd() : below(3) == 0 ? 1 + below(64) : 1 + below(6);
        count("shrink", x::shrink, model::shrink, budget);
        rested += model.resting() ? 1 : 0;
        if (before == ChoiceShrink.PH_FOUND && model.phase() == ChoiceShrink.PH_DONE) {
            done++;
            for (int pass = 1; pass <= 4; pass++) {
                accepted[pass] += model.acceptedIn[pass];
            }
            if (below(2) == 0) {
                discard();
            }
        }
    }

    private static void feedAndReplay() {
        int length = below(33);
        for (int at = 0; at < length; at++) {
            int c = below(4) == 0 ? 0 : below(3) == 0 ? below(256) : below(5);
            count("pushChoice", x::pushChoice, model::pushChoice, c);
        }
        calls.add("replay()");
        same("replay()", model.replay(), x.replay());
    }

    private static void discard() {
        calls.add("discard()");
        x.discard();
        model.discard();
        same("discard()", 0, 0);
    }

    private static void addGen(int kind, int bound) {
        String call = "addGen(" + kind + ", " + bound + ")";
        calls.add(call);
        same(call, model.addGen(kind, bound), x.addGen(kind, bound));
    }

    private static void addOp(int op, int arg) {
        String call = "addOp(" + op + ", " + arg + ")";
        calls.add(call);
        same(call, model.addOp(op, arg), x.addOp(op, arg));
    }

    private static void count(String name, IntUnaryOperator asked,
            IntUnaryOperator due, int number) {
        String call = name + "(" + number + ")";
        calls.add(call);
        same(call, due.applyAsInt(number), asked.applyAsInt(number));
    }

    private static void same(String call, int want, int got) {
        if (Check.wrongSoFar() == 0) {
            Check.due(call, want, got);
            Check.due("all after " + call, model.state(), State.of(x));
        }
    }

    private static int odd() {
        return ODD_NUMBERS[below(ODD_NUMBERS.length)];
    }

    private static int below(int bound) {
        return (int) Math.floorMod(next() >>> 20, (long) bound);
    }

    private static long next() {
        made ^= made << 13;
        made ^= made >>> 7;
        made ^= made << 17;
        return made;
    }
}
