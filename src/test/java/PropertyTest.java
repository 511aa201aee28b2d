import java.util.ArrayList;
import java.util.List;

/** Promises 3 and 5: the property's run (Terms), seen through the outcome of a replay. */
public final class PropertyTest {
    private static final int PUSH = ChoiceShrink.OP_PUSH;
    private static final int VAL = ChoiceShrink.OP_VAL;
    private static final int LEN = ChoiceShrink.OP_LEN;
    private static final int ADD = ChoiceShrink.OP_ADD;
    private static final int SUB = ChoiceShrink.OP_SUB;
    private static final int MUL = ChoiceShrink.OP_MUL;
    private static final int LT = ChoiceShrink.OP_LT;
    private static final int EQ = ChoiceShrink.OP_EQ;
    private static final int NOT = ChoiceShrink.OP_NOT;
    private static final int DUP = ChoiceShrink.OP_DUP;
    private static final int SWAP = ChoiceShrink.OP_SWAP;
    private static final int DROP = ChoiceShrink.OP_DROP;
    private static final int OVER = ChoiceShrink.OP_OVER;
    private static final int JZ = ChoiceShrink.OP_JZ;
    private static final int JMP = ChoiceShrink.OP_JMP;

    public static void main(String[] args) {
        arithmetic();
        arithmeticWraps();
        comparisons();
        readingTheValue();
        stackWork();
        jumps();
        topDecides();
        emptyStackFails();
        popsOfTooFewFail();
        fullStackFails();
        fullStackStillWorks();
        stepLimit();
        Check.end("PropertyTest");
    }

    private static void arithmetic() {
        leaves(7, PUSH, 7);
        leaves(-7, PUSH, -7);
        leaves(Integer.MAX_VALUE, PUSH, Integer.MAX_VALUE);
        leaves(Integer.MIN_VALUE, PUSH, Integer.MIN_VALUE);
        leaves(12, PUSH, 7, PUSH, 5, ADD, 0);
        leaves(2, PUSH, 7, PUSH, 5, SUB, 0);
        leaves(-2, PUSH, 5, PUSH, 7, SUB, 0);
        leaves(35, PUSH, 7, PUSH, 5, MUL, 0);
        leaves(-35, PUSH, 7, PUSH, -5, MUL, 0);
        leaves(4, PUSH, 10, PUSH, 7, PUSH, 1, SUB, 0, SUB, 0);
    }

    private static void arithmeticWraps() {
        leaves(Integer.MIN_VALUE, PUSH, Integer.MAX_VALUE, PUSH, 1, ADD, 0);
        leaves(Integer.MAX_VALUE, PUSH, Integer.MIN_VALUE, PUSH, 1, SUB, 0);
        leaves(Integer.MIN_VALUE, PUSH, 0, PUSH, Integer.MIN_VALUE, SUB, 0);
        leaves(65536 * 65537, PUSH, 65536, PUSH, 65537, MUL, 0);
        leaves(0, PUSH, 65536, PUSH, 65536, MUL, 0);
        leaves(Integer.MIN_VALUE, PUSH, Integer.MIN_VALUE, PUSH, -1, MUL, 0);
    }

    private static void comparisons() {
        leaves(1, PUSH, 5, PUSH, 7, LT, 0);
        leaves(0, PUSH, 7, PUSH, 5, LT, 0);
        leaves(0, PUSH, 5, PUSH, 5, LT, 0);
        leaves(1, PUSH, Integer.MIN_VALUE, PUSH, Integer.MAX_VALUE, LT, 0);
        leaves(0, PUSH, Integer.MAX_VALUE, PUSH, Integer.MIN_VALUE, LT, 0);
        leaves(1, PUSH, -1, PUSH, 0, LT, 0);
        leaves(1, PUSH, 5, PUSH, 5, EQ, 0);
        leaves(0, PUSH, 5, PUSH, 6, EQ, 0);
        leaves(0, PUSH, 6, PUSH, 5, EQ, 0);
        leaves(1, PUSH, 0, NOT, 0);
        leaves(0, PUSH, 1, NOT, 0);
        leaves(0, PUSH, -1, NOT, 0);
        leaves(0, PUSH, 2, NOT, 0);
    }

    /** The value is 11, 22, 33. */
    private static void readingTheValue() {
        leaves(3, LEN, 0);
        leaves(11, PUSH, 0, VAL, 0);
        leaves(22, PUSH, 1, VAL, 0);
        leaves(33, PUSH, 2, VAL, 0);
        leaves(0, PUSH, 3, VAL, 0);
        leaves(0, PUSH, 31, VAL, 0);
        leaves(0, PUSH, 32, VAL, 0);
        leaves(0, PUSH, -1, VAL, 0);
        leaves(0, PUSH, Integer.MIN_VALUE, VAL, 0);
        leaves(0, PUSH, Integer.MAX_VALUE, VAL, 0);
        // A cell beyond the value is 0 also where a longer value stood before.
        ChoiceShrink x = Make.tester(1, 32, Make.LIST_OF_INT, new int[][] {{PUSH, 2}, {VAL, 0}});
        Make.feed(x, 1, 8, 1, 9, 0);
        Check.due("V[2] of two elements", ChoiceShrink.R_HOLDS, x.replay());
        x.discard();
        Make.feed(x, 1, 8, 0);
        Check.due("V[2] of one element", ChoiceShrink.R_FAILS, x.replay());
    }

    private static void stackWork() {
        leaves(10, PUSH, 5, DUP, 0, ADD, 0);
        leaves(5, PUSH, 9, PUSH, 5, DUP, 0, DROP, 0);
        leaves(2, PUSH, 5, PUSH, 7, SWAP, 0, SUB, 0);
        leaves(5, PUSH, 5, PUSH, 7, SWAP, 0);
        leaves(7, PUSH, 5, PUSH, 7, SWAP, 0, DROP, 0);
        leaves(5, PUSH, 5, PUSH, 7, DROP, 0);
        leaves(5, PUSH, 5, PUSH, 7, OVER, 0);
        leaves(7, PUSH, 5, PUSH, 7, OVER, 0, DROP, 0);
        leaves(5, PUSH, 5, PUSH, 7, OVER, 0, DROP, 0, DROP, 0);
        leaves(9, PUSH, 9, PUSH, 5, PUSH, 7, ADD, 0, DROP, 0);
        leaves(9, PUSH, 9, PUSH, 5, NOT, 0, DROP, 0);
        leaves(9, PUSH, 9, PUSH, 1, VAL, 0, DROP, 0);
    }

    private static void jumps() {
        leaves(5, PUSH, 5, JMP, 3, PUSH, 6);
        leaves(6, PUSH, 5, JMP, 2, PUSH, 6);
        leaves(5, PUSH, 5, PUSH, 0, JZ, 4, PUSH, 6);
        leaves(6, PUSH, 5, PUSH, 1, JZ, 4, PUSH, 6);
        leaves(6, PUSH, 5, PUSH, -1, JZ, 4, PUSH, 6);
        // Backwards: 3 is counted down to 0, with a sum of 3 + 2 + 1 under it.
        leaves(6, PUSH, 0, PUSH, 3, SWAP, 0, OVER, 0, ADD, 0, SWAP, 0, PUSH, 1, SUB, 0, DUP, 0, JZ, 11, JMP, 2,
            DROP, 0);
        // A jump pops nothing but its own cell.
        leaves(9, PUSH, 9, PUSH, 0, JZ, 3);
        leaves(9, PUSH, 9, JMP, 2);
    }

    private static void topDecides() {
        outcome(ChoiceShrink.R_FAILS, PUSH, 0);
        outcome(ChoiceShrink.R_HOLDS, PUSH, 1);
        outcome(ChoiceShrink.R_HOLDS, PUSH, -1);
        outcome(ChoiceShrink.R_HOLDS, PUSH, 2);
        outcome(ChoiceShrink.R_HOLDS, PUSH, Integer.MIN_VALUE);
        outcome(ChoiceShrink.R_HOLDS, PUSH, 0, PUSH, 1);
        outcome(ChoiceShrink.R_FAILS, PUSH, 1, PUSH, 0);
    }

    private static void emptyStackFails() {
        outcome(ChoiceShrink.R_FAILS, JMP, 1);
        outcome(ChoiceShrink.R_FAILS, PUSH, 1, DROP, 0);
        outcome(ChoiceShrink.R_FAILS, PUSH, 1, JZ, 2);
        outcome(ChoiceShrink.R_FAILS, PUSH, 0, JZ, 32);
    }

    /** What comes after would hold, so only the stop at once makes these fail. */
    private static void popsOfTooFewFail() {
        for (int op : new int[] {VAL, NOT, DUP, DROP, JZ}) {
            outcome(ChoiceShrink.R_FAILS, op, 1, PUSH, 1);
            outcome(ChoiceShrink.R_HOLDS, PUSH, 1, op, 2, PUSH, 1);
        }
        for (int op : new int[] {ADD, SUB, MUL, LT, EQ, SWAP, OVER}) {
            outcome(ChoiceShrink.R_FAILS, op, 0, PUSH, 1);
            outcome(ChoiceShrink.R_FAILS, PUSH, 1, op, 0, PUSH, 1);
            outcome(ChoiceShrink.R_HOLDS, PUSH, 1, PUSH, 1, op, 0, PUSH, 1);
        }
    }

    private static void fullStackFails() {
        for (int op : new int[] {PUSH, LEN, DUP, OVER}) {
            outcome(ChoiceShrink.R_HOLDS, pushed(15, op, 1));
            outcome(ChoiceShrink.R_FAILS, pushed(16, op, 1));
            outcome(ChoiceShrink.R_FAILS, pushed(16, op, 1, DROP, 0));
        }
    }

    private static void fullStackStillWorks() {
        for (int op : new int[] {VAL, NOT, DROP, SWAP, ADD, SUB, MUL, LT, EQ, JZ}) {
            outcome(ChoiceShrink.R_HOLDS, pushed(16, op, 18, DROP, 0, PUSH, 1));
        }
        outcome(ChoiceShrink.R_HOLDS, pushed(16, JMP, 17));
    }

    /** PUSH n, then n turns of five steps (the last has four): 5n steps, and one for each PUSH behind. */
    private static void stepLimit() {
        outcome(ChoiceShrink.R_HOLDS, countdown(51, 1));
        outcome(ChoiceShrink.R_FAILS, countdown(51, 2));
        outcome(ChoiceShrink.R_HOLDS, countdown(50, 6));
        outcome(ChoiceShrink.R_FAILS, countdown(50, 7));
        outcome(ChoiceShrink.R_FAILS, countdown(1000, 1));
        outcome(ChoiceShrink.R_FAILS, PUSH, 1, JMP, 1);
        outcome(ChoiceShrink.R_FAILS, JMP, 0);
    }

    private static int[] countdown(int turns, int pushesBehind) {
        int[] program = new int[12 + 2 * pushesBehind];
        int[] loop = {PUSH, turns, PUSH, -1, ADD, 0, DUP, 0, JZ, 6, JMP, 1};
        System.arraycopy(loop, 0, program, 0, loop.length);
        for (int at = loop.length; at < program.length; at += 2) {
            program[at] = PUSH;
            program[at + 1] = 1;
        }
        return program;
    }

    private static int[] pushed(int times, int... more) {
        int[] program = new int[2 * times + more.length];
        for (int at = 0; at < 2 * times; at += 2) {
            program[at] = PUSH;
            program[at + 1] = 1;
        }
        System.arraycopy(more, 0, program, 2 * times, more.length);
        return program;
    }

    /** The program ends with want on top: compared with want it holds, with a neighbour it fails. */
    private static void leaves(int want, int... program) {
        outcome(ChoiceShrink.R_HOLDS, compared(program, want));
        outcome(ChoiceShrink.R_FAILS, compared(program, want + 1));
        outcome(ChoiceShrink.R_FAILS, compared(program, want - 1));
    }

    private static int[] compared(int[] program, int want) {
        int[] longer = new int[program.length + 4];
        System.arraycopy(program, 0, longer, 0, program.length);
        longer[program.length] = PUSH;
        longer[program.length + 1] = want;
        longer[program.length + 2] = EQ;
        return longer;
    }

    private static void outcome(int want, int... program) {
        ChoiceShrink x = Make.fed(8, Make.ints(3, 255), new int[0][], 11, 22, 33);
        List<String> text = new ArrayList<>();
        for (int at = 0; at < program.length; at += 2) {
            Check.due("addOp", at / 2, x.addOp(program[at], program[at + 1]));
            text.add(program[at] + " " + program[at + 1]);
        }
        Check.due("replay with " + text, want, x.replay());
    }
}
