/** Promise 8: discard. */
public final class DiscardTest {
    private static final int[][] ADDS_UP = Make.firstTwoDoNotAddUpTo(10);

    public static void main(String[] args) {
        worksOnANewObject();
        clearsTheBufferInIdle();
        clearsAFinding();
        clearsAHalfShrunkOne();
        clearsADoneOne();
        keepsTheRandomState();
        shrinksAnewAfterwards();
        Check.end("DiscardTest");
    }

    private static void worksOnANewObject() {
        ChoiceShrink x = new ChoiceShrink(7, 8);
        String before = State.of(x);
        x.discard();
        Check.due("all after discard of a new object", before, State.of(x));
    }

    private static void clearsTheBufferInIdle() {
        ChoiceShrink x = Make.fed(8, Make.ints(2, 255), ADDS_UP, 7, 3);
        x.discard();
        isCleared(x);
    }

    private static void clearsAFinding() {
        ChoiceShrink x = found();
        x.discard();
        isCleared(x);
    }

    private static void clearsAHalfShrunkOne() {
        for (int trials = 1; trials <= 22; trials++) {
            ChoiceShrink x = found();
            x.shrink(trials);
            Check.due("phase() after " + trials + " trials", ChoiceShrink.PH_FOUND, x.phase());
            x.discard();
            isCleared(x);
        }
    }

    private static void clearsADoneOne() {
        ChoiceShrink x = found();
        x.shrink(64);
        Check.due("phase()", ChoiceShrink.PH_DONE, x.phase());
        x.discard();
        isCleared(x);
        x.discard();
        isCleared(x);
    }

    private static void keepsTheRandomState() {
        ChoiceShrink x = Make.tester(7, 8, Make.ints(2, 255), Make.NEVER);
        Check.due("run(16)", 1, x.run(16));
        int state = x.stat(7);
        x.discard();
        Check.due("stat(7) after discard", state, x.stat(7));
        Check.due("stat(5) after discard", 1, x.stat(5));
        Check.due("run(16) after discard", 1, x.run(16));
        Check.due("stat(5) after the second run", 2, x.stat(5));
        // The draws go on where the first run left them.
        ChoiceShrink four = Make.tester(7, 8, Make.ints(4, 255), Make.NEVER);
        four.run(1);
        Check.due("first choice after discard", four.choiceAt(2), x.choiceAt(0));
        Check.due("second choice after discard", four.choiceAt(3), x.choiceAt(1));
    }

    private static void shrinksAnewAfterwards() {
        ChoiceShrink x = found();
        x.shrink(9);
        x.discard();
        Make.feed(x, 7, 3);
        Check.due("replay() after discard", ChoiceShrink.R_FAILS, x.replay());
        Check.due("all after replay", State.of(found()), State.of(x));
        Check.due("shrink(64) after discard", 23, x.shrink(64));
        Check.due("S", "[3, 7]", State.sequence(x).toString());
    }

    private static ChoiceShrink found() {
        ChoiceShrink x = Make.fed(8, Make.ints(2, 255), ADDS_UP, 7, 3);
        x.replay();
        return x;
    }

    private static void isCleared(ChoiceShrink x) {
        Check.due("all after discard",
            "phase 0 S [] O [] V [] stat [0, 0, 3, 8, 0, 0, 1, 1] cursor [0, 0, 0, 0, 0, 0]", State.of(x));
        Check.due("choiceAt(0) after discard", -1, x.choiceAt(0));
        Check.due("origChoiceAt(0) after discard", -1, x.origChoiceAt(0));
        Check.due("valueAt(0) after discard", -1, x.valueAt(0));
        Check.due("shrink(1) after discard", -1, x.shrink(1));
        Check.due("replay() of the cleared buffer", ChoiceShrink.R_INVALID, x.replay());
    }
}
