import java.util.ArrayList;
import java.util.List;

/** The Term "Property", for promises 3 and 5, seen through the outcome of a replay. */
public final class PropertyTest {
    private static final int PUSH = ChoiceShrink.OP_PUSH;
    private static final int VAL = ChoiceShrink.OP_VAL;
    private static final int LEN = ChoiceShrink.OP_LEN;
    private static final int ADD = ChoiceShrink.OP_ADD;
    private static final int SUB = ChoiceShrink.OP_SUB;
    private static final int MUL = ChoiceShrink.OP_MUL;
    private static final int LT = ChoiceShrink.OP_LT;
    private static final int EQ = ChoiceShrink.OP_EQ;
    private static final int NOT = ChoiceShrink.OP_NOT;
    private static final int DUP = ChoiceShrink.OP_DUP;
    private static final int SWAP = ChoiceShrink.OP_SWAP;
    private static final int DROP = ChoiceShrink.OP_DROP;
    private static final int OVER = ChoiceShrink.OP_OVER;
    private static final int JZ = ChoiceShrink.OP_JZ;
    private static final int JMP = ChoiceShrink.OP_JMP;

    private static final int LEAST = Make.LEAST;
    private static final int GREATEST = Make.GREATEST;
    private static final int HOLDS = ChoiceShrink.R_HOLDS;
    private static final int FAILS = ChoiceShrink.R_FAILS;

    public static void main(String[] args) {
        stopsNormallyAtTheEnd();
        stopsAt256Steps();
        theEndComesBeforeTheStepLimit();
        everyRunCountsItsOwnSteps();
        everyInstructionIsOneStep();
        theStackHolds16Cells();
        poppingAnEmptyStackFails();
        poppingTheSecondOfOneFails();
        needsFail();
        pushingOnto16CellsFails();
        fullStackStillWorks();
        failureComesAtOnce();
        binaryOrder();
        arithmetic();
        arithmeticWraps();
        pushAnyInt();
        valInsideAndOutside();
        valAndLenOfShortAndLongValues();
        valForgetsALongerValue();
        comparisons();
        comparisonsOfLeastAndGreatest();
        not();
        stackWork();
        branches();
        jumps();
        topDecides();
        emptyStackAtTheEndFails();
        Check.end("PropertyTest");
    }

    private static void stopsNormallyAtTheEnd() {
        Check.says("Loop: if pc >= program length, stop normally");
        outcome(HOLDS, PUSH, 1);
        outcome(HOLDS, PUSH, 1, JMP, 2);
        outcome(HOLDS, PUSH, 1, JMP, 3);
        outcome(HOLDS, PUSH, 1, JMP, 32);
        outcome(HOLDS, pushed(16));
    }

    private static void stopsAt256Steps() {
        Check.says("if steps = 256, stop with failure");
        outcome(HOLDS, countdown(50, 4, DROP, 0));
        outcome(HOLDS, countdown(50, 5, DROP, 0));
        outcome(FAILS, countdown(50, 6, DROP, 0));
        outcome(FAILS, countdown(50, 7, DROP, 0));
        outcome(HOLDS, countdown(49, 10, DROP, 0));
        outcome(FAILS, countdown(49, 11, DROP, 0));
        outcome(FAILS, countdown(1000, 1, DROP, 0));
        outcome(FAILS, PUSH, 1, JMP, 1);
        outcome(FAILS, JMP, 0);
        outcome(FAILS, PUSH, 1, PUSH, 0, JZ, 1);
    }

    private static void theEndComesBeforeTheStepLimit() {
        Check.says("if pc >= program length, stop normally; if steps = 256, stop with failure", "in this order");
        // The 256th step is the last instruction, a jump behind the end, a branch behind the end.
        outcome(HOLDS, countdown(50, 5, DROP, 0));
        outcome(HOLDS, countdown(50, 5, DROP, 0, JMP, 32));
        outcome(HOLDS, countdown(50, 5, DROP, 0, PUSH, 0, JZ, 32));
        outcome(FAILS, countdown(50, 6, DROP, 0, JMP, 32));
        outcome(FAILS, countdown(50, 6, DROP, 0, PUSH, 0, JZ, 32));
    }

    /** PUSH 1, then turns of five steps, of which the last has four: 5 * turns + 1 steps, with 0 above 1 left. */
    private static int[] countdown(int turns, int stepsBehind, int... behind) {
        List<Integer> program = new ArrayList<>(
            List.of(PUSH, 1, PUSH, turns, PUSH, -1, ADD, 0, DUP, 0, JZ, 7, JMP, 2));
        for (int step = behind.length / 2; step < stepsBehind; step++) {
            program.add(JMP);
            program.add(program.size() / 2 + 1);
        }
        for (int number : behind) {
            program.add(number);
        }
        return program.stream().mapToInt(Integer::intValue).toArray();
    }

    private static void everyRunCountsItsOwnSteps() {
        Check.says("starting with pc := 0 and steps := 0");
        ChoiceShrink x = Make.fed(8, Make.ints(3, 255), Make.program(countdown(50, 5, DROP, 0)), 11, 22, 33);
        for (int call = 1; call <= 3; call++) {
            Check.due("replay() number " + call, HOLDS, x.replay());
        }
        Check.due("run(16)", 0, x.run(16));
        // Four cells are left each time, so a stack that is not emptied would be full in the fourth run.
        ChoiceShrink y = Make.fed(8, Make.ints(3, 255), Make.program(PUSH, 1, PUSH, 1, PUSH, 1, PUSH, 1), 11, 22, 33);
        for (int call = 1; call <= 9; call++) {
            Check.due("replay() number " + call, HOLDS, y.replay());
        }
    }

    /** The countdown's 251 steps leave 0 above 1; with five steps more the run just ends. */
    private static void everyInstructionIsOneStep() {
        Check.says("steps := steps+1; execute instruction pc, then pc := pc+1 unless it jumped.");
        int[][] behind = {
            {PUSH, 7}, {VAL, 0}, {LEN, 0}, {ADD, 0}, {SUB, 0}, {MUL, 0, NOT, 0}, {LT, 0, NOT, 0}, {EQ, 0, NOT, 0},
            {NOT, 0}, {DUP, 0, DROP, 0, DROP, 0}, {SWAP, 0}, {DROP, 0}, {OVER, 0}, {JZ, 32}, {NOT, 0, JZ, 0},
            {DROP, 0, JMP, 32}};
        for (int[] instructions : behind) {
            outcome(HOLDS, countdown(50, 5, instructions));
            outcome(FAILS, countdown(50, 6, instructions));
        }
        // In turn: what comes later is on top.
        leaves(7, PUSH, 5, PUSH, 6, PUSH, 7);
        leaves(3, PUSH, 5, PUSH, 6, DROP, 0, PUSH, 2, SUB, 0);
    }

    private static void theStackHolds16Cells() {
        Check.says("run on a value V of L cells with an int stack of at most 16 cells");
        // Sixteen cells that are added up: 1 to 15, and what makes the sum 0 or not.
        for (int last : new int[] {-121, -120, -119, 0, GREATEST}) {
            int[] program = new int[62];
            for (int cell = 0; cell < 16; cell++) {
                program[2 * cell] = PUSH;
                program[2 * cell + 1] = cell < 15 ? cell + 1 : last;
            }
            for (int sum = 16; sum < 31; sum++) {
                program[2 * sum] = ADD;
            }
            outcome(last == -120 ? FAILS : HOLDS, program);
        }
        outcome(HOLDS, pushed(16));
        outcome(FAILS, pushed(17));
    }

    private static void poppingAnEmptyStackFails() {
        Check.says("Popping an empty stack or pushing onto 16 cells stops with failure at once.", "popping");
        for (int op : new int[] {VAL, NOT, DROP, JZ, ADD, SUB, MUL, LT, EQ}) {
            outcome(FAILS, op, 1);
            outcome(FAILS, op, 1, PUSH, 1);
            outcome(FAILS, PUSH, 1, DROP, 0, op, 3, PUSH, 1);
        }
        for (int op : new int[] {VAL, NOT, DROP, JZ}) {
            outcome(HOLDS, PUSH, 1, op, 2, PUSH, 1);
        }
    }

    private static void poppingTheSecondOfOneFails() {
        Check.says("Binary ops pop b (top) then a", "of one cell: popping an empty stack");
        for (int op : new int[] {ADD, SUB, MUL, LT, EQ}) {
            outcome(FAILS, PUSH, 1, op, 0);
            outcome(FAILS, PUSH, 1, op, 0, PUSH, 1);
            outcome(HOLDS, PUSH, 1, PUSH, 1, op, 0, PUSH, 1);
        }
    }

    private static void needsFail() {
        Check.says("An op marked (needs N) that runs with fewer than N cells on the stack also stops with failure at "
            + "once.");
        for (int op : new int[] {DUP, DROP}) {
            outcome(FAILS, op, 0);
            outcome(FAILS, op, 0, PUSH, 1);
            outcome(HOLDS, PUSH, 1, op, 0, PUSH, 1);
        }
        for (int op : new int[] {SWAP, OVER}) {
            outcome(FAILS, op, 0);
            outcome(FAILS, op, 0, PUSH, 1);
            outcome(FAILS, PUSH, 1, op, 0);
            outcome(FAILS, PUSH, 1, op, 0, PUSH, 1);
            outcome(HOLDS, PUSH, 1, PUSH, 1, op, 0);
        }
    }

    private static void pushingOnto16CellsFails() {
        Check.says("Popping an empty stack or pushing onto 16 cells stops with failure at once.", "pushing");
        for (int op : new int[] {PUSH, LEN, DUP, OVER}) {
            outcome(HOLDS, pushed(14, op, 1));
            outcome(HOLDS, pushed(15, op, 1));
            outcome(FAILS, pushed(16, op, 1));
            outcome(FAILS, pushed(16, op, 1, DROP, 0));
            outcome(FAILS, pushed(15, op, 1, op, 1));
            outcome(HOLDS, pushed(16, DROP, 0, op, 1));
        }
    }

    private static void fullStackStillWorks() {
        Check.says("pushing onto 16 cells", "an op that pops first has room");
        for (int op : new int[] {VAL, NOT, DROP, SWAP, ADD, SUB, MUL, LT, EQ, JZ}) {
            outcome(HOLDS, pushed(16, op, 18, DROP, 0, PUSH, 1));
        }
        outcome(HOLDS, pushed(16, JMP, 17));
        outcome(HOLDS, pushed(16, SWAP, 0));
        outcome(HOLDS, pushed(16, VAL, 0));
        outcome(HOLDS, pushed(16, NOT, 0, NOT, 0));
    }

    private static void failureComesAtOnce() {
        Check.says("stops with failure at once", "whatever is on top, and whatever comes behind");
        outcome(FAILS, ADD, 0, PUSH, 1, PUSH, 1);
        outcome(FAILS, PUSH, 5, ADD, 0, PUSH, 1, JMP, 32);
        outcome(FAILS, PUSH, 5, SWAP, 0, JMP, 32);
        outcome(FAILS, pushed(16, LEN, 0, JMP, 32));
    }

    private static void binaryOrder() {
        Check.says("Binary ops pop b (top) then a and push (a op b)");
        leaves(2, PUSH, 7, PUSH, 5, SUB, 0);
        leaves(-2, PUSH, 5, PUSH, 7, SUB, 0);
        leaves(1, PUSH, 5, PUSH, 7, LT, 0);
        leaves(0, PUSH, 7, PUSH, 5, LT, 0);
        leaves(4, PUSH, 10, PUSH, 7, PUSH, 1, SUB, 0, SUB, 0);
        leaves(9, PUSH, 9, PUSH, 5, PUSH, 7, ADD, 0, DROP, 0);
    }

    private static void arithmetic() {
        Check.says("OP_ADD a+b. OP_SUB a-b. OP_MUL a*b.");
        leaves(12, PUSH, 7, PUSH, 5, ADD, 0);
        leaves(-2, PUSH, -7, PUSH, 5, ADD, 0);
        leaves(2, PUSH, 7, PUSH, 5, SUB, 0);
        leaves(12, PUSH, 7, PUSH, -5, SUB, 0);
        leaves(-12, PUSH, -7, PUSH, 5, SUB, 0);
        leaves(35, PUSH, 7, PUSH, 5, MUL, 0);
        leaves(-35, PUSH, 7, PUSH, -5, MUL, 0);
        leaves(35, PUSH, -7, PUSH, -5, MUL, 0);
        leaves(0, PUSH, 7, PUSH, 0, MUL, 0);
    }

    private static void arithmeticWraps() {
        Check.says("with 32-bit wrapping as Java int arithmetic does");
        leaves(GREATEST, PUSH, GREATEST - 1, PUSH, 1, ADD, 0);
        leaves(LEAST, PUSH, GREATEST, PUSH, 1, ADD, 0);
        leaves(GREATEST, PUSH, LEAST, PUSH, -1, ADD, 0);
        leaves(-2, PUSH, GREATEST, PUSH, GREATEST, ADD, 0);
        leaves(0, PUSH, LEAST, PUSH, LEAST, ADD, 0);
        leaves(LEAST, PUSH, LEAST + 1, PUSH, 1, SUB, 0);
        leaves(GREATEST, PUSH, LEAST, PUSH, 1, SUB, 0);
        leaves(LEAST, PUSH, GREATEST, PUSH, -1, SUB, 0);
        leaves(LEAST, PUSH, 0, PUSH, LEAST, SUB, 0);
        leaves(-1, PUSH, GREATEST, PUSH, LEAST, SUB, 0);
        leaves(2147450880, PUSH, 65535, PUSH, 32768, MUL, 0);
        leaves(LEAST, PUSH, 65536, PUSH, 32768, MUL, 0);
        leaves(65536, PUSH, 65536, PUSH, 65537, MUL, 0);
        leaves(0, PUSH, 65536, PUSH, 65536, MUL, 0);
        leaves(1, PUSH, GREATEST, PUSH, GREATEST, MUL, 0);
        leaves(LEAST, PUSH, LEAST, PUSH, -1, MUL, 0);
        leaves(0, PUSH, LEAST, PUSH, 2, MUL, 0);
    }

    private static void pushAnyInt() {
        Check.says("OP_PUSH: push arg.");
        for (int arg : new int[] {LEAST, LEAST + 1, -7, -1, 0, 1, 7, 255, 256, GREATEST - 1, GREATEST}) {
            leaves(arg, PUSH, arg);
        }
    }

    /** The value is 11, 22, 33. */
    private static void valInsideAndOutside() {
        Check.says("OP_VAL: pop i; push V[i] if 0 <= i < L, else 0. OP_LEN: push L.");
        leaves(3, LEN, 0);
        leaves(11, PUSH, 0, VAL, 0);
        leaves(22, PUSH, 1, VAL, 0);
        leaves(33, PUSH, 2, VAL, 0);
        leaves(0, PUSH, 3, VAL, 0);
        leaves(0, PUSH, 31, VAL, 0);
        leaves(0, PUSH, 32, VAL, 0);
        leaves(0, PUSH, 33, VAL, 0);
        leaves(0, PUSH, -1, VAL, 0);
        leaves(0, PUSH, LEAST, VAL, 0);
        leaves(0, PUSH, GREATEST, VAL, 0);
        leaves(9, PUSH, 9, PUSH, 1, VAL, 0, DROP, 0);
        leaves(33, LEN, 0, PUSH, 1, SUB, 0, VAL, 0);
        leaves(0, LEN, 0, VAL, 0);
    }

    private static void valAndLenOfShortAndLongValues() {
        Check.says("push V[i] if 0 <= i < L, else 0. OP_LEN: push L.", "the shortest and the longest value");
        lengthAndLast(1, 0, Make.LIST_OF_INT, 0);
        lengthAndLast(1, 200, Make.ints(1, 255), 200);
        int[][] gen = Make.joined(new int[][] {{ChoiceShrink.G_PAIR, 0}, {ChoiceShrink.G_LIST, 0}},
            Make.ints(5, 255), Make.ints(1, 255));
        int[] choices = new int[32];
        for (int element = 0; element < 5; element++) {
            choices[6 * element] = 1;
        }
        choices[31] = 200;
        lengthAndLast(27, 200, gen, choices);
    }

    private static void lengthAndLast(int length, int last, int[][] gen, int... choices) {
        Check.due("LEN of " + length, HOLDS,
            Make.fed(32, gen, Make.program(LEN, 0, PUSH, length, EQ, 0), choices).replay());
        Check.due("the last of " + length, HOLDS,
            Make.fed(32, gen, Make.program(PUSH, length - 1, VAL, 0, PUSH, last, EQ, 0), choices).replay());
        Check.due("the one behind " + length, HOLDS,
            Make.fed(32, gen, Make.program(PUSH, length, VAL, 0, PUSH, 0, EQ, 0), choices).replay());
    }

    private static void valForgetsALongerValue() {
        Check.says("push V[i] if 0 <= i < L, else 0", "where a longer value stood before");
        ChoiceShrink x = Make.tester(1, 32, Make.LIST_OF_INT, Make.program(PUSH, 2, VAL, 0));
        Make.feed(x, 1, 8, 1, 9, 0);
        Check.due("V[2] of two elements", HOLDS, x.replay());
        x.discard();
        Make.feed(x, 1, 8, 0);
        Check.due("V[2] of one element", FAILS, x.replay());
    }

    private static void comparisons() {
        Check.says("OP_LT 1 if a<b else 0. OP_EQ 1 if a==b else 0.");
        leaves(1, PUSH, 4, PUSH, 5, LT, 0);
        leaves(0, PUSH, 5, PUSH, 5, LT, 0);
        leaves(0, PUSH, 6, PUSH, 5, LT, 0);
        leaves(1, PUSH, -1, PUSH, 0, LT, 0);
        leaves(0, PUSH, 0, PUSH, -1, LT, 0);
        leaves(0, PUSH, 4, PUSH, 5, EQ, 0);
        leaves(1, PUSH, 5, PUSH, 5, EQ, 0);
        leaves(0, PUSH, 6, PUSH, 5, EQ, 0);
    }

    private static void comparisonsOfLeastAndGreatest() {
        Check.says("OP_LT 1 if a<b else 0. OP_EQ 1 if a==b else 0.", "the least and the greatest int");
        leaves(1, PUSH, LEAST, PUSH, GREATEST, LT, 0);
        leaves(0, PUSH, GREATEST, PUSH, LEAST, LT, 0);
        leaves(1, PUSH, LEAST, PUSH, LEAST + 1, LT, 0);
        leaves(0, PUSH, LEAST, PUSH, LEAST, LT, 0);
        leaves(0, PUSH, GREATEST, PUSH, GREATEST, LT, 0);
        leaves(1, PUSH, LEAST, PUSH, LEAST, EQ, 0);
        leaves(1, PUSH, GREATEST, PUSH, GREATEST, EQ, 0);
        leaves(0, PUSH, LEAST, PUSH, GREATEST, EQ, 0);
        leaves(0, PUSH, LEAST, PUSH, 0, EQ, 0);
    }

    private static void not() {
        Check.says("OP_NOT: pop x; push 1 if x == 0 else 0.");
        leaves(1, PUSH, 0, NOT, 0);
        for (int x : new int[] {LEAST, -1, 1, 2, GREATEST}) {
            leaves(0, PUSH, x, NOT, 0);
        }
        leaves(9, PUSH, 9, PUSH, 5, NOT, 0, DROP, 0);
    }

    private static void stackWork() {
        Check.says("OP_DUP: push a copy of the top (needs 1). OP_SWAP: exchange the two top cells (needs 2). OP_DROP: "
            + "pop (needs 1). OP_OVER: push a copy of the cell under the top (needs 2).");
        leaves(10, PUSH, 5, DUP, 0, ADD, 0);
        leaves(5, PUSH, 9, PUSH, 5, DUP, 0, DROP, 0);
        leaves(5, PUSH, 5, PUSH, 7, SWAP, 0);
        leaves(7, PUSH, 5, PUSH, 7, SWAP, 0, DROP, 0);
        leaves(2, PUSH, 5, PUSH, 7, SWAP, 0, SUB, 0);
        leaves(3, PUSH, 3, PUSH, 5, PUSH, 7, SWAP, 0, DROP, 0, DROP, 0);
        leaves(5, PUSH, 5, PUSH, 7, DROP, 0);
        leaves(5, PUSH, 5, PUSH, 7, OVER, 0);
        leaves(7, PUSH, 5, PUSH, 7, OVER, 0, DROP, 0);
        leaves(5, PUSH, 5, PUSH, 7, OVER, 0, DROP, 0, DROP, 0);
    }

    private static void branches() {
        Check.says("OP_JZ: pop x; if x == 0 then pc := arg (jumped).");
        leaves(5, PUSH, 5, PUSH, 0, JZ, 4, PUSH, 6);
        for (int x : new int[] {LEAST, -1, 1, 2, GREATEST}) {
            leaves(6, PUSH, 5, PUSH, x, JZ, 4, PUSH, 6);
        }
        leaves(9, PUSH, 9, PUSH, 0, JZ, 3);
        leaves(9, PUSH, 9, PUSH, 1, JZ, 3);
        // Taken, it does not also step on: the instruction at its target runs.
        leaves(7, PUSH, 5, PUSH, 0, JZ, 4, PUSH, 6, PUSH, 7);
    }

    private static void jumps() {
        Check.says("OP_JMP: pc := arg (jumped).");
        leaves(5, PUSH, 5, JMP, 3, PUSH, 6);
        leaves(6, PUSH, 5, JMP, 2, PUSH, 6);
        leaves(7, PUSH, 5, JMP, 3, PUSH, 6, PUSH, 7);
        leaves(9, PUSH, 9, JMP, 2);
        // Backwards: 3 is counted down to 0, with a sum of 3 + 2 + 1 under it.
        leaves(6, PUSH, 0, PUSH, 3, SWAP, 0, OVER, 0, ADD, 0, SWAP, 0, PUSH, 1, SUB, 0, DUP, 0, JZ, 11, JMP, 2,
            DROP, 0);
    }

    private static void topDecides() {
        Check.says("The property HOLDS iff the run stopped normally with a non-empty stack whose top is not 0");
        outcome(FAILS, PUSH, 0);
        for (int top : new int[] {LEAST, -1, 1, 2, GREATEST}) {
            outcome(HOLDS, PUSH, top);
            outcome(HOLDS, PUSH, 0, PUSH, top);
            outcome(FAILS, PUSH, top, PUSH, 0);
        }
    }

    private static void emptyStackAtTheEndFails() {
        Check.says("with a non-empty stack whose top is not 0; otherwise it FAILS", "an empty stack");
        outcome(FAILS, JMP, 1);
        outcome(FAILS, PUSH, 1, DROP, 0);
        outcome(FAILS, PUSH, 1, JZ, 2);
        outcome(FAILS, PUSH, 0, JZ, 32);
        outcome(HOLDS, PUSH, 1, PUSH, 1, DROP, 0);
    }

    private static int[] pushed(int times, int... more) {
        int[] program = new int[2 * times + more.length];
        for (int at = 0; at < 2 * times; at += 2) {
            program[at] = PUSH;
            program[at + 1] = 1;
        }
        System.arraycopy(more, 0, program, 2 * times, more.length);
        return program;
    }

    /** The program ends with want on top: compared with want it holds, with a neighbour it fails. */
    private static void leaves(int want, int... program) {
        outcome(HOLDS, compared(program, want));
        outcome(FAILS, compared(program, want + 1));
        outcome(FAILS, compared(program, want - 1));
    }

    private static int[] compared(int[] program, int want) {
        int[] longer = new int[program.length + 4];
        System.arraycopy(program, 0, longer, 0, program.length);
        longer[program.length] = PUSH;
        longer[program.length + 1] = want;
        longer[program.length + 2] = EQ;
        return longer;
    }

    private static void outcome(int want, int... program) {
        ChoiceShrink x = Make.fed(8, Make.ints(3, 255), Make.NOTHING, 11, 22, 33);
        List<String> text = new ArrayList<>();
        for (int[] instruction : Make.program(program)) {
            Check.due("addOp", text.size(), x.addOp(instruction[0], instruction[1]));
            text.add(instruction[0] + " " + instruction[1]);
        }
        Check.due("replay with " + text, want, x.replay());
    }
}
