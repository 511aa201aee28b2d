/** Promise 4: pushChoice. */
public final class PushChoiceTest {
    public static void main(String[] args) {
        answersTheNewLength();
        refusesWrongChoices();
        refusesWhenFull();
        worksInEveryPhase();
        keepsTheOrder();
        Check.end("PushChoiceTest");
    }

    private static void answersTheNewLength() {
        ChoiceShrink x = new ChoiceShrink(1, 8);
        Check.due("pushChoice(0)", 1, x.pushChoice(0));
        Check.due("pushChoice(255)", 2, x.pushChoice(255));
        Check.due("pushChoice(128)", 3, x.pushChoice(128));
        Check.due("all after three choices",
            "phase 0 S [] O [] V [] stat [0, 0, 0, 0, 3, 0, 0, 1] cursor [0, 0, 0, 0, 0, 0]", State.of(x));
    }

    private static void refusesWrongChoices() {
        ChoiceShrink x = new ChoiceShrink(1, 8);
        x.pushChoice(7);
        for (int c : new int[] {-1, -128, 256, 257, Integer.MIN_VALUE, Integer.MAX_VALUE}) {
            refuses(x, c);
        }
    }

    private static void refusesWhenFull() {
        for (int cap = 4; cap <= 32; cap++) {
            ChoiceShrink x = new ChoiceShrink(1, cap);
            for (int length = 1; length <= cap; length++) {
                Check.due("cap " + cap + ": pushChoice", length, x.pushChoice(0));
            }
            refuses(x, 0);
            refuses(x, 255);
            refuses(x, 256);
        }
    }

    private static void worksInEveryPhase() {
        ChoiceShrink x = Make.fed(8, Make.ints(2, 255), Make.firstTwoDoNotAddUpTo(10), 7, 3);
        x.replay();
        growsOnlyTheBuffer(x, ChoiceShrink.PH_FOUND);
        x.shrink(5);
        growsOnlyTheBuffer(x, ChoiceShrink.PH_FOUND);
        x.shrink(64);
        growsOnlyTheBuffer(x, ChoiceShrink.PH_DONE);
    }

    private static void growsOnlyTheBuffer(ChoiceShrink x, int phase) {
        int length = x.stat(4);
        Check.due("phase()", phase, x.phase());
        String before = State.of(x);
        Check.due("pushChoice(200)", length + 1, x.pushChoice(200));
        Check.due("stat(4)", length + 1, x.stat(4));
        String nodesAndProgram = ", 3, 8, ";
        String after = before.replace(nodesAndProgram + length + ",", nodesAndProgram + (length + 1) + ",");
        Check.due("all after pushChoice", after, State.of(x));
        refuses(x, -1);
    }

    private static void keepsTheOrder() {
        ChoiceShrink x = Make.fed(4, Make.ints(4, 255), Make.NEVER, 1, 255, 0, 33);
        Check.due("replay()", ChoiceShrink.R_FAILS, x.replay());
        Check.due("S", "[1, 255, 0, 33]", State.sequence(x).toString());
    }

    private static void refuses(ChoiceShrink x, int c) {
        String before = State.of(x);
        Check.due("pushChoice(" + c + ")", -1, x.pushChoice(c));
        Check.due("all after pushChoice(" + c + ")", before, State.of(x));
    }
}
