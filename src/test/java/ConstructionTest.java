/** Promise 1: Construction. */
public final class ConstructionTest {
    public static void main(String[] args) {
        seedIsClamped();
        capIsClamped();
        capBoundsTheDraws();
        everythingIsEmpty();
        Check.end("ConstructionTest");
    }

    private static void seedIsClamped() {
        seedGives(0, 0);
        seedGives(1, 1);
        seedGives(40000, 40000);
        seedGives(65535, 65535);
        seedGives(65536, 65535);
        seedGives(Integer.MAX_VALUE, 65535);
        seedGives(-1, 0);
        seedGives(Integer.MIN_VALUE, 0);
    }

    private static void seedGives(int seed, int state) {
        ChoiceShrink x = new ChoiceShrink(seed, 8);
        Check.due("seed " + seed + ": stat(7)", state, x.stat(7));
    }

    private static void capIsClamped() {
        capGives(4, 4);
        capGives(5, 5);
        capGives(16, 16);
        capGives(31, 31);
        capGives(32, 32);
        capGives(3, 4);
        capGives(0, 4);
        capGives(-1, 4);
        capGives(Integer.MIN_VALUE, 4);
        capGives(33, 32);
        capGives(Integer.MAX_VALUE, 32);
    }

    private static void capGives(int cap, int room) {
        ChoiceShrink x = new ChoiceShrink(1, cap);
        for (int length = 1; length <= room; length++) {
            Check.due("cap " + cap + ": pushChoice", length, x.pushChoice(length));
        }
        Check.due("cap " + cap + ": pushChoice when full", -1, x.pushChoice(0));
        x.discard();
        for (int length = 1; length <= room; length++) {
            Check.due("cap " + cap + ": pushChoice after discard", length, x.pushChoice(length));
        }
        Check.due("cap " + cap + ": pushChoice when full again", -1, x.pushChoice(0));
    }

    private static void capBoundsTheDraws() {
        ChoiceShrink five = Make.tester(1, -9, Make.ints(5, 255), Make.NEVER);
        Check.due("run with 5 ints and cap 4", 0, five.run(16));
        ChoiceShrink four = Make.tester(1, -9, Make.ints(4, 255), Make.NEVER);
        Check.due("run with 4 ints and cap 4", 1, four.run(16));
    }

    private static void everythingIsEmpty() {
        ChoiceShrink x = new ChoiceShrink(9, 9);
        Check.due("all of a new object",
            "phase 0 S [] O [] V [] stat [0, 0, 0, 0, 0, 0, 0, 9] cursor [0, 0, 0, 0, 0, 0]", State.of(x));
        Check.due("choiceAt(0)", -1, x.choiceAt(0));
        Check.due("origChoiceAt(0)", -1, x.origChoiceAt(0));
        Check.due("valueAt(0)", -1, x.valueAt(0));
        Check.due("addOp", 0, x.addOp(ChoiceShrink.OP_PUSH, 0));
        Check.due("replay() without a generator", -1, x.replay());
        Check.due("run(1) without a generator", -1, x.run(1));
        Check.due("shrink(1)", -1, x.shrink(1));
    }
}
