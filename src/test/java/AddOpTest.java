import java.util.function.Supplier;

/** Promise 3: addOp. */
public final class AddOpTest {
    private static final int[][] ONE_INT = Make.ints(1, 255);
    private static final int[] JUMPS = {ChoiceShrink.OP_JZ, ChoiceShrink.OP_JMP};

    public static void main(String[] args) {
        refusesOutsideIdle();
        goesOnAfterDiscard();
        refusesWrongOps();
        takesEveryOp();
        refusesWrongTargets();
        refusesAThirtyThird();
        takesAThirtySecondThatCounts();
        keepsTheArgOfPush();
        keepsTheTargetOfJumps();
        ignoresTheArgOfTheOthers();
        answersTheIndex();
        appendsOneInstruction();
        changesNothingElse();
        jumpsBeyondTheEndEndNormally();
        jumpsToTheLastInstructionRunIt();
        jumpsThatAreNotTakenDoNotEnd();
        Check.end("AddOpTest");
    }

    private static void refusesOutsideIdle() {
        Check.says("refusing with -1 and no change: phase is not PH_IDLE");
        Moment.found().values().forEach(AddOpTest::refusesEveryOp);
        Moment.done().values().forEach(AddOpTest::refusesEveryOp);
    }

    private static void refusesEveryOp(Supplier<ChoiceShrink> made) {
        for (int op = 0; op <= 14; op++) {
            refuses(made, op, 1);
        }
    }

    private static void goesOnAfterDiscard() {
        Check.says("phase is not PH_IDLE", "in it again, addOp goes on");
        ChoiceShrink x = Make.found(8, ONE_INT, Make.NEVER, 9);
        Check.due("addOp in PH_FOUND", -1, x.addOp(ChoiceShrink.OP_NOT, 0));
        x.discard();
        Check.due("addOp after discard", 1, x.addOp(ChoiceShrink.OP_NOT, 0));
        x.pushChoice(9);
        Check.due("replay() of the longer program", ChoiceShrink.R_HOLDS, x.replay());
        Check.due("addOp after replay", 2, x.addOp(ChoiceShrink.OP_NOT, 0));
        Check.due("replay() of the still longer program", ChoiceShrink.R_FAILS, x.replay());
    }

    private static void refusesWrongOps() {
        Check.says("op not in 0..14");
        for (int op : new int[] {Make.LEAST, -14, -1, 15, 16, 100, Make.GREATEST}) {
            for (int arg : new int[] {Make.LEAST, -1, 0, 32, 33, Make.GREATEST}) {
                refuses(() -> new ChoiceShrink(1, 8), op, arg);
                refuses(() -> Make.fed(8, ONE_INT, Make.ALWAYS, 9), op, arg);
            }
        }
    }

    private static void takesEveryOp() {
        Check.says("op not in 0..14", "those in it are taken");
        ChoiceShrink x = new ChoiceShrink(1, 8);
        for (int op = 0; op <= 14; op++) {
            Check.due("addOp(" + op + ", 0)", op, x.addOp(op, 0));
        }
    }

    private static void refusesWrongTargets() {
        Check.says("op is OP_JZ or OP_JMP and arg not in 0..32");
        for (int op : JUMPS) {
            for (int arg : new int[] {Make.LEAST, -32, -1, 33, 34, 255, Make.GREATEST}) {
                refuses(() -> new ChoiceShrink(1, 8), op, arg);
                refuses(() -> Make.fed(8, ONE_INT, Make.ALWAYS, 9), op, arg);
            }
            for (int arg = 0; arg <= 32; arg++) {
                Check.due("addOp(" + op + ", " + arg + ")", 0, new ChoiceShrink(1, 8).addOp(op, arg));
            }
        }
    }

    private static void refusesAThirtyThird() {
        Check.says("32 instructions present");
        int[][] full = Make.joined(Make.ALWAYS, Make.repeated(31, ChoiceShrink.OP_NOT, 0));
        refusesEveryOp(() -> Make.fed(8, ONE_INT, full, 9));
        refuses(() -> Make.fed(8, ONE_INT, full, 9), ChoiceShrink.OP_PUSH, Make.LEAST);
        refuses(() -> Make.fed(8, ONE_INT, full, 9), ChoiceShrink.OP_PUSH, Make.GREATEST);
        refuses(() -> Make.fed(8, ONE_INT, full, 9), ChoiceShrink.OP_JMP, 32);
        for (int op = 0; op <= 14; op++) {
            ChoiceShrink x = Make.tester(1, 8, ONE_INT, Make.repeated(31, ChoiceShrink.OP_PUSH, 1));
            Check.due("a thirty-second, addOp(" + op + ", 1)", 31, x.addOp(op, 1));
        }
    }

    private static void takesAThirtySecondThatCounts() {
        Check.says("Property. A program of at most 32 instructions (op, arg)");
        ChoiceShrink x = Make.tester(1, 8, ONE_INT, Make.NOTHING);
        for (int index = 0; index < 32; index++) {
            Check.due("addOp", index, x.addOp(index == 0 ? ChoiceShrink.OP_PUSH : ChoiceShrink.OP_NOT, 1));
        }
        Check.due("stat(3)", 32, x.stat(3));
        x.pushChoice(0);
        // 1, then turned over 31 times.
        Check.due("replay()", ChoiceShrink.R_FAILS, x.replay());
    }

    private static void keepsTheArgOfPush() {
        Check.says("arg is kept for OP_PUSH (any int)");
        for (int arg : new int[] {Make.LEAST, Make.LEAST + 1, -1, 0, 1, 33, 256, Make.GREATEST - 1, Make.GREATEST}) {
            outcome("PUSH " + arg + " is that", ChoiceShrink.R_HOLDS, new int[][] {
                {ChoiceShrink.OP_PUSH, arg}, {ChoiceShrink.OP_PUSH, arg}, {ChoiceShrink.OP_EQ, 0}});
            outcome("PUSH " + arg + " is not one more", ChoiceShrink.R_FAILS, new int[][] {
                {ChoiceShrink.OP_PUSH, arg}, {ChoiceShrink.OP_PUSH, arg + 1}, {ChoiceShrink.OP_EQ, 0}});
            outcome("PUSH " + arg + " alone", arg == 0 ? ChoiceShrink.R_FAILS : ChoiceShrink.R_HOLDS,
                new int[][] {{ChoiceShrink.OP_PUSH, arg}});
        }
    }

    /** Only the jump to the very PUSH 1 that stands behind jumps of itself leaves 1. */
    private static void keepsTheTargetOfJumps() {
        Check.says("arg is kept for OP_PUSH (any int), OP_JZ and OP_JMP");
        for (int target = 2; target <= 30; target++) {
            for (int hit = 2; hit <= 30; hit++) {
                int[][] program = Make.repeated(31, ChoiceShrink.OP_JMP, 32);
                program[0] = new int[] {ChoiceShrink.OP_JMP, target};
                program[hit] = new int[] {ChoiceShrink.OP_PUSH, 1};
                int want = hit == target ? ChoiceShrink.R_HOLDS : ChoiceShrink.R_FAILS;
                outcome("JMP " + target + " with PUSH 1 at " + hit, want, program);
                int[][] branch = program.clone();
                branch[0] = new int[] {ChoiceShrink.OP_PUSH, 0};
                branch[1] = new int[] {ChoiceShrink.OP_JZ, target};
                outcome("JZ " + target + " with PUSH 1 at " + hit, want, branch);
            }
        }
        outcome("JMP 0 for ever", ChoiceShrink.R_FAILS, new int[][] {{ChoiceShrink.OP_JMP, 0}});
    }

    private static void ignoresTheArgOfTheOthers() {
        Check.says("and ignored otherwise");
        for (int arg : new int[] {Make.LEAST, -1, 0, 1, 32, 33, 77, Make.GREATEST}) {
            for (int op = ChoiceShrink.OP_VAL; op <= ChoiceShrink.OP_OVER; op++) {
                Check.due("addOp(" + op + ", " + arg + ")", 0, new ChoiceShrink(1, 8).addOp(op, arg));
                int[][] program = {{ChoiceShrink.OP_PUSH, 3}, {ChoiceShrink.OP_PUSH, 0}, {op, arg}};
                int[][] plain = {{ChoiceShrink.OP_PUSH, 3}, {ChoiceShrink.OP_PUSH, 0}, {op, 0}};
                Check.due("replay with op " + op + " and arg " + arg,
                    Make.fed(8, ONE_INT, plain, 9).replay(), Make.fed(8, ONE_INT, program, 9).replay());
            }
            int[][] program = {
                {ChoiceShrink.OP_LEN, arg}, {ChoiceShrink.OP_DUP, arg}, {ChoiceShrink.OP_ADD, arg},
                {ChoiceShrink.OP_PUSH, 2}, {ChoiceShrink.OP_EQ, arg}};
            outcome("LEN DUP ADD with args " + arg, ChoiceShrink.R_HOLDS, program);
        }
    }

    private static void answersTheIndex() {
        Check.says("Otherwise the instruction is appended and the answer is its index (0 for the first).");
        ChoiceShrink x = new ChoiceShrink(1, 8);
        Check.due("addOp", 0, x.addOp(ChoiceShrink.OP_PUSH, 7));
        Check.due("a refused one takes no index", -1, x.addOp(ChoiceShrink.OP_JMP, 33));
        Check.due("addOp", 1, x.addOp(ChoiceShrink.OP_PUSH, 0));
        Check.due("addOp", 2, x.addOp(ChoiceShrink.OP_DROP, 0));
        Check.due("stat(3)", 3, x.stat(3));
        x.addGen(ChoiceShrink.G_INT, 5);
        Check.due("run(1) with 7 on top", 0, x.run(1));
    }

    private static void appendsOneInstruction() {
        Check.says("Appends a property instruction.");
        for (int op = 0; op <= 14; op++) {
            for (int before = 0; before <= 31; before++) {
                ChoiceShrink x = Make.tester(1, 8, ONE_INT, Make.repeated(before, ChoiceShrink.OP_PUSH, 1));
                x.addOp(op, 0);
                Check.due("stat(3) after op " + op, before + 1, x.stat(3));
            }
        }
    }

    private static void changesNothingElse() {
        Check.says("Nothing else changes.");
        ChoiceShrink x = new ChoiceShrink(5, 8);
        x.pushChoice(3);
        x.addOp(ChoiceShrink.OP_JMP, 0);
        Check.due("all after one instruction",
            "phase 0 S [] O [] V [] stat [0, 0, 0, 1, 1, 0, 0, 5] cursor [0, 0, 0, 0, 0, 0]", State.of(x));
    }

    private static void jumpsBeyondTheEndEndNormally() {
        Check.says("A jump target at or beyond the program length, when taken, ends the run normally at the next loop "
            + "test.");
        for (int length = 3; length <= 32; length++) {
            for (int target = length; target <= 32; target++) {
                outcome("JMP " + target + " of " + length, ChoiceShrink.R_HOLDS,
                    withBad(length, new int[][] {{ChoiceShrink.OP_PUSH, 1}, {ChoiceShrink.OP_JMP, target}}));
                outcome("JZ " + target + " of " + length, ChoiceShrink.R_HOLDS,
                    withBad(length, new int[][] {{ChoiceShrink.OP_PUSH, 1}, {ChoiceShrink.OP_PUSH, 0},
                        {ChoiceShrink.OP_JZ, target}}));
                outcome("JMP " + target + " of " + length + " with 0 on top", ChoiceShrink.R_FAILS,
                    withBad(length, new int[][] {{ChoiceShrink.OP_PUSH, 0}, {ChoiceShrink.OP_JMP, target}}));
            }
        }
        outcome("JMP 1 of 1 with nothing on the stack", ChoiceShrink.R_FAILS, new int[][] {{ChoiceShrink.OP_JMP, 1}});
        outcome("JMP 32 of 1 with nothing on the stack", ChoiceShrink.R_FAILS, new int[][] {{ChoiceShrink.OP_JMP, 32}});
    }

    /** Fills up to the length with instructions that would spoil the outcome if one of them ran. */
    private static int[][] withBad(int length, int[][] begin) {
        int flip = begin[0][1] == 0 ? 1 : 0;
        return Make.joined(begin, Make.repeated(length - begin.length, ChoiceShrink.OP_PUSH, flip));
    }

    private static void jumpsToTheLastInstructionRunIt() {
        Check.says("A jump target at or beyond the program length", "one before it runs the last instruction");
        for (int length = 4; length <= 32; length++) {
            int[][] jump = withBad(length, new int[][] {{ChoiceShrink.OP_PUSH, 1}, {ChoiceShrink.OP_JMP, length - 1}});
            outcome("JMP to the last of " + length, ChoiceShrink.R_FAILS, jump);
            int[][] branch = withBad(length, new int[][] {{ChoiceShrink.OP_PUSH, 1}, {ChoiceShrink.OP_PUSH, 0},
                {ChoiceShrink.OP_JZ, length - 1}});
            outcome("JZ to the last of " + length, ChoiceShrink.R_FAILS, branch);
        }
    }

    private static void jumpsThatAreNotTakenDoNotEnd() {
        Check.says("when taken, ends the run normally", "not taken, the run goes on");
        for (int target : new int[] {4, 5, 32}) {
            outcome("JZ " + target + " over 1", ChoiceShrink.R_FAILS, new int[][] {
                {ChoiceShrink.OP_PUSH, 1}, {ChoiceShrink.OP_PUSH, 1}, {ChoiceShrink.OP_JZ, target},
                {ChoiceShrink.OP_PUSH, 0}});
        }
    }

    private static void outcome(String told, int want, int[][] program) {
        ChoiceShrink x = Make.fed(8, ONE_INT, program, 9);
        Check.due(told + ": stat(3)", program.length, x.stat(3));
        Check.due(told + ": replay()", want, x.replay());
    }

    private static void refuses(Supplier<ChoiceShrink> made, int op, int arg) {
        Refused.due("addOp(" + op + ", " + arg + ")", made, x -> x.addOp(op, arg));
    }
}
