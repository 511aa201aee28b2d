/** Promise 3: addOp. */
public final class AddOpTest {
    public static void main(String[] args) {
        answersTheIndexUpTo32();
        takesEveryOp();
        refusesWrongOps();
        refusesWrongTargets();
        takesAnyOtherArg();
        ignoresTheArgOfTheOthers();
        refusesOutsideIdle();
        goesOnAfterDiscard();
        jumpsBeyondTheEndEndNormally();
        changesNothingElse();
        Check.end("AddOpTest");
    }

    private static void answersTheIndexUpTo32() {
        ChoiceShrink x = Make.tester(1, 8, Make.ints(1, 255), new int[0][]);
        for (int index = 0; index < 32; index++) {
            int op = index == 0 ? ChoiceShrink.OP_PUSH : ChoiceShrink.OP_NOT;
            Check.due("addOp", index, x.addOp(op, 1));
        }
        refuses(x, ChoiceShrink.OP_NOT, 0);
        refuses(x, ChoiceShrink.OP_PUSH, 0);
        refuses(x, ChoiceShrink.OP_JMP, 0);
        Check.due("stat(3)", 32, x.stat(3));
        x.pushChoice(0);
        // 1, then turned over 31 times: the last instruction counts.
        Check.due("replay()", ChoiceShrink.R_FAILS, x.replay());
    }

    private static void takesEveryOp() {
        ChoiceShrink x = new ChoiceShrink(1, 8);
        for (int op = 0; op <= 14; op++) {
            Check.due("addOp(" + op + ", 0)", op, x.addOp(op, 0));
        }
    }

    private static void refusesWrongOps() {
        for (int op : new int[] {-1, -14, 15, 16, 100, Integer.MIN_VALUE, Integer.MAX_VALUE}) {
            refuses(new ChoiceShrink(1, 8), op, 0);
        }
    }

    private static void refusesWrongTargets() {
        for (int op : new int[] {ChoiceShrink.OP_JZ, ChoiceShrink.OP_JMP}) {
            for (int arg : new int[] {-1, 33, 34, 255, Integer.MIN_VALUE, Integer.MAX_VALUE}) {
                refuses(new ChoiceShrink(1, 8), op, arg);
            }
            for (int arg : new int[] {0, 1, 31, 32}) {
                Check.due("addOp(" + op + ", " + arg + ")", 0, new ChoiceShrink(1, 8).addOp(op, arg));
            }
        }
    }

    private static void takesAnyOtherArg() {
        for (int arg : new int[] {-1, 33, 256, Integer.MIN_VALUE, Integer.MAX_VALUE}) {
            for (int op = 0; op <= ChoiceShrink.OP_OVER; op++) {
                Check.due("addOp(" + op + ", " + arg + ")", 0, new ChoiceShrink(1, 8).addOp(op, arg));
            }
        }
    }

    private static void ignoresTheArgOfTheOthers() {
        for (int arg : new int[] {-1, 0, 1, 77, Integer.MIN_VALUE}) {
            int[][] program = {
                {ChoiceShrink.OP_LEN, arg}, {ChoiceShrink.OP_DUP, arg}, {ChoiceShrink.OP_ADD, arg},
                {ChoiceShrink.OP_PUSH, 2}, {ChoiceShrink.OP_EQ, arg}};
            ChoiceShrink x = Make.fed(8, Make.ints(1, 255), program, 9);
            Check.due("replay with args " + arg, ChoiceShrink.R_HOLDS, x.replay());
        }
    }

    private static void refusesOutsideIdle() {
        ChoiceShrink x = Make.fed(8, Make.ints(1, 255), Make.NEVER, 9);
        x.replay();
        Check.due("phase()", ChoiceShrink.PH_FOUND, x.phase());
        refuses(x, ChoiceShrink.OP_PUSH, 1);
        x.shrink(1);
        refuses(x, ChoiceShrink.OP_PUSH, 1);
        x.shrink(64);
        Check.due("phase()", ChoiceShrink.PH_DONE, x.phase());
        refuses(x, ChoiceShrink.OP_PUSH, 1);
        refuses(x, ChoiceShrink.OP_JMP, 32);
    }

    private static void goesOnAfterDiscard() {
        ChoiceShrink x = Make.fed(8, Make.ints(1, 255), Make.NEVER, 9);
        Check.due("replay()", ChoiceShrink.R_FAILS, x.replay());
        x.discard();
        Check.due("addOp after discard", 1, x.addOp(ChoiceShrink.OP_NOT, 0));
        x.pushChoice(9);
        Check.due("replay() of the longer program", ChoiceShrink.R_HOLDS, x.replay());
        Check.due("addOp after replay", 2, x.addOp(ChoiceShrink.OP_NOT, 0));
        Check.due("replay() of the still longer program", ChoiceShrink.R_FAILS, x.replay());
    }

    private static void jumpsBeyondTheEndEndNormally() {
        for (int target = 2; target <= 32; target++) {
            int[][] jump = {{ChoiceShrink.OP_PUSH, 1}, {ChoiceShrink.OP_JMP, target}};
            Check.due("replay with JMP " + target, ChoiceShrink.R_HOLDS,
                Make.fed(8, Make.ints(1, 255), jump, 9).replay());
            int[][] branch = {{ChoiceShrink.OP_PUSH, 1}, {ChoiceShrink.OP_PUSH, 0}, {ChoiceShrink.OP_JZ, target + 1}};
            if (target < 32) {
                Check.due("replay with JZ " + (target + 1), ChoiceShrink.R_HOLDS,
                    Make.fed(8, Make.ints(1, 255), branch, 9).replay());
            }
        }
    }

    private static void changesNothingElse() {
        ChoiceShrink x = new ChoiceShrink(5, 8);
        x.pushChoice(3);
        x.addOp(ChoiceShrink.OP_JMP, 0);
        Check.due("all after one instruction",
            "phase 0 S [] O [] V [] stat [0, 0, 0, 1, 1, 0, 0, 5] cursor [0, 0, 0, 0, 0, 0]", State.of(x));
    }

    private static void refuses(ChoiceShrink x, int op, int arg) {
        String before = State.of(x);
        String call = "addOp(" + op + ", " + arg + ")";
        Check.due(call, -1, x.addOp(op, arg));
        Check.due("all after " + call, before, State.of(x));
    }
}
