import java.util.Arrays;
import java.util.function.Supplier;

/** Promise 4: pushChoice. */
public final class PushChoiceTest {
    public static void main(String[] args) {
        worksInEveryPhase();
        refusesWrongChoices();
        takesTheLeastAndTheGreatest();
        refusesWhenFull();
        refusesWhenFullInEveryPhase();
        answersTheNewLength();
        growsOnlyTheBufferInEveryPhase();
        keepsTheOrder();
        Check.end("PushChoiceTest");
    }

    private static void worksInEveryPhase() {
        Check.says("Appends choice c to M, in any phase.");
        Check.due("pushChoice in PH_IDLE", 1, new ChoiceShrink(1, 8).pushChoice(200));
        for (int trials : new int[] {0, 1, 3, 7, 11, 12, 22, 23}) {
            ChoiceShrink x = Moment.sevenThree(trials);
            Check.due("pushChoice after " + trials + " trials", 3, x.pushChoice(200));
            Check.due("pushChoice after " + trials + " trials again", 4, x.pushChoice(201));
        }
        ChoiceShrink x = Moment.sevenThree(23);
        x.discard();
        Check.due("pushChoice after discard", 1, x.pushChoice(200));
    }

    private static void refusesWrongChoices() {
        Check.says("Refused (-1, no change) if c is not in 0..255");
        for (int c : new int[] {Make.LEAST, -256, -128, -1, 256, 257, 511, Make.GREATEST}) {
            refuses(() -> new ChoiceShrink(1, 8), c);
            refuses(() -> Make.fed(8, Make.ints(2, 255), Make.NEVER, 7, 3), c);
            refuses(() -> Moment.sevenThree(0), c);
            refuses(() -> Moment.sevenThree(5), c);
            refuses(() -> Moment.sevenThree(23), c);
        }
    }

    private static void takesTheLeastAndTheGreatest() {
        Check.says("c is not in 0..255", "those in it are taken");
        for (int c : new int[] {0, 1, 127, 128, 254, 255}) {
            ChoiceShrink x = Make.tester(1, 8, Make.ints(1, 255), Make.NEVER);
            Check.due("pushChoice(" + c + ")", 1, x.pushChoice(c));
            x.replay();
            Check.due("choiceAt(0) of " + c, c, x.choiceAt(0));
        }
    }

    private static void refusesWhenFull() {
        Check.says("or M already holds cap choices");
        for (int cap = 4; cap <= 32; cap++) {
            ChoiceShrink x = new ChoiceShrink(1, cap);
            for (int length = 1; length <= cap; length++) {
                Check.due("cap " + cap + ": pushChoice", length, x.pushChoice(0));
            }
            Check.due("cap " + cap + ": pushChoice when full", -1, x.pushChoice(0));
            int full = cap;
            for (int c : new int[] {Make.LEAST, -1, 0, 1, 255, 256, Make.GREATEST}) {
                // Up to eight ints, and then again with 32, the last choice of the buffer is used.
                int[][] gen = cap == 32 ? Make.LIST_OF_THREE : Make.ints(cap < 8 ? cap : 8, 255);
                refuses(() -> Make.fed(full, gen, Make.ALWAYS, sevens(full)), c);
            }
        }
    }

    private static int[] sevens(int count) {
        int[] choices = new int[count];
        Arrays.fill(choices, 7);
        return choices;
    }

    private static void refusesWhenFullInEveryPhase() {
        Check.says("M already holds cap choices", "in every phase");
        for (int trials : new int[] {0, 1, 3, 7, 11, 12, 22, 23}) {
            Supplier<ChoiceShrink> full = () -> {
                ChoiceShrink x = Moment.sevenThree(trials);
                Make.feed(x, 9, 9);
                return x;
            };
            Check.due("stat(4) when full", 4, full.get().stat(4));
            refuses(full, 0);
            refuses(full, 255);
        }
    }

    private static void answersTheNewLength() {
        Check.says("Otherwise answers the new length of M.");
        ChoiceShrink x = new ChoiceShrink(1, 8);
        Check.due("pushChoice(0)", 1, x.pushChoice(0));
        Check.due("pushChoice(255)", 2, x.pushChoice(255));
        Check.due("a refused one has no length", -1, x.pushChoice(256));
        Check.due("pushChoice(128)", 3, x.pushChoice(128));
        Check.due("stat(4)", 3, x.stat(4));
        x.discard();
        Check.due("pushChoice(1) after discard", 1, x.pushChoice(1));
    }

    private static void growsOnlyTheBufferInEveryPhase() {
        Check.says("Nothing else changes; in particular S, O, V, the phase and counters are untouched.");
        growsOnlyTheBuffer(Make.fed(4, Make.ints(2, 255), Make.sumIsNot(2, 10), 7, 3));
        for (int trials : new int[] {0, 1, 3, 7, 11, 12, 22, 23}) {
            growsOnlyTheBuffer(Moment.sevenThree(trials));
        }
    }

    private static void growsOnlyTheBuffer(ChoiceShrink x) {
        String nodesAndProgram = ", 3, 8, ";
        String before = State.of(x);
        x.pushChoice(200);
        Check.due("all after pushChoice", before.replace(nodesAndProgram + "2, 0", nodesAndProgram + "3, 0"),
            State.of(x));
        Check.due("stat(4)", 3, x.stat(4));
    }

    private static void keepsTheOrder() {
        Check.says("Appends choice c to M");
        ChoiceShrink x = Make.found(4, Make.ints(4, 255), Make.NEVER, 1, 255, 0, 33);
        Check.due("S", "[1, 255, 0, 33]", State.sequence(x).toString());
    }

    private static void refuses(Supplier<ChoiceShrink> made, int c) {
        Refused.due("pushChoice(" + c + ")", made, x -> x.pushChoice(c));
    }
}
