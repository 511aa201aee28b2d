import java.util.ArrayList;
import java.util.List;

/** Promise 6: run. */
public final class RunTest {
    private static final int[][] LIST_THEN_INT = {
        {ChoiceShrink.G_PAIR, 0}, {ChoiceShrink.G_LIST, 0}, {ChoiceShrink.G_INT, 99}, {ChoiceShrink.G_INT, 6}};

    public static void main(String[] args) {
        refusesWithoutGeneratorOrProgram();
        refusesOutsideIdle();
        clampsTheCount();
        drawsInts();
        drawsNarrowInts();
        drawsLists();
        answersTheFailingCase();
        carriesTheStateOver();
        invalidCasesCount();
        aFailedTakeDoesNotDraw();
        leavesTheBuffer();
        replaysAsRecorded();
        Check.end("RunTest");
    }

    private static void refusesWithoutGeneratorOrProgram() {
        refuses(new ChoiceShrink(1, 8));
        refuses(Make.tester(1, 8, new int[0][], Make.NEVER));
        refuses(Make.tester(1, 8, new int[][] {{ChoiceShrink.G_LIST, 0}}, Make.NEVER));
        refuses(Make.tester(1, 8, Make.ints(2, 255), new int[0][]));
    }

    private static void refusesOutsideIdle() {
        ChoiceShrink x = Make.tester(1, 8, Make.ints(2, 255), Make.NEVER);
        Check.due("run(1)", 1, x.run(1));
        refuses(x);
        x.shrink(1);
        refuses(x);
        x.shrink(64);
        Check.due("phase()", ChoiceShrink.PH_DONE, x.phase());
        refuses(x);
    }

    private static void clampsTheCount() {
        runs(1, 1);
        runs(0, 1);
        runs(-1, 1);
        runs(Integer.MIN_VALUE, 1);
        runs(2, 2);
        runs(15, 15);
        runs(16, 16);
        runs(17, 16);
        runs(Integer.MAX_VALUE, 16);
    }

    private static void runs(int count, int cases) {
        ChoiceShrink x = Make.tester(5, 8, Make.ints(2, 255), Make.ALWAYS);
        Check.due("run(" + count + ")", 0, x.run(count));
        Check.due("all after run(" + count + ")",
            "phase 0 S [] O [] V [] stat [0, 0, 3, 1, 0, " + cases + ", 1, " + advanced(5, 2 * cases)
            + "] cursor [0, 0, 0, 0, 0, 0]", State.of(x));
    }

    private static void drawsInts() {
        ChoiceShrink x = Make.tester(60000, 32, Make.ints(8, 255), Make.NEVER);
        Check.due("run(9)", 1, x.run(9));
        List<Integer> want = new ArrayList<>();
        for (int draw = 1; draw <= 8; draw++) {
            want.add(drawn(60000, draw));
        }
        Check.due("S", want.toString(), State.sequence(x).toString());
        Check.due("all after run",
            "phase 1 S " + want + " O " + want + " V " + want + " stat [0, 0, 15, 1, 0, 1, 1, "
            + advanced(60000, 8) + "] cursor [0, 0, 0, 0, 0, 0]", State.of(x));
    }

    private static void drawsNarrowInts() {
        for (int bound : new int[] {0, 1, 2, 6, 9, 100, 254}) {
            ChoiceShrink x = Make.tester(33, 8, Make.ints(3, bound), Make.NEVER);
            Check.due("run(1) with bound " + bound, 1, x.run(1));
            for (int i = 0; i < 3; i++) {
                int want = drawn(33, i + 1) % (bound + 1);
                Check.due("choice " + i + " with bound " + bound, want, x.choiceAt(i));
                Check.due("cell " + i + " with bound " + bound, want, x.valueAt(i));
            }
        }
    }

    /** The list's draws are 0..3, whatever the bound of its element. */
    private static void drawsLists() {
        int found = 0;
        for (int seed = 0; seed < 200; seed++) {
            ChoiceShrink x = Make.tester(seed, 32, LIST_THEN_INT, Make.NEVER);
            Check.due("run(1) with seed " + seed, 1, x.run(1));
            List<Integer> choices = new ArrayList<>();
            List<Integer> value = new ArrayList<>();
            int draw = listDraws(seed, choices, value);
            int last = drawn(seed, draw + 1) % 7;
            choices.add(last);
            value.add(last);
            Check.due("S with seed " + seed, choices.toString(), State.sequence(x).toString());
            Check.due("V with seed " + seed, value.toString(), State.value(x).toString());
            Check.due("stat(7) with seed " + seed, advanced(seed, draw + 1), x.stat(7));
            found += value.get(0) == 8 ? 1 : 0;
        }
        Check.due("some lists were full", 1, found > 0 ? 1 : 0);
    }

    private static int listDraws(int seed, List<Integer> choices, List<Integer> value) {
        value.add(0);
        int draw = 0;
        while (value.get(0) < 8) {
            draw++;
            int more = drawn(seed, draw) % 4;
            choices.add(more);
            if (more == 0) {
                return draw;
            }
            draw++;
            int element = drawn(seed, draw) % 100;
            choices.add(element);
            value.add(element);
            value.set(0, value.get(0) + 1);
        }
        return draw;
    }

    private static void answersTheFailingCase() {
        for (int seed = 0; seed < 300; seed++) {
            int[][] below200 = {
                {ChoiceShrink.OP_PUSH, 0}, {ChoiceShrink.OP_VAL, 0}, {ChoiceShrink.OP_PUSH, 200},
                {ChoiceShrink.OP_LT, 0}};
            ChoiceShrink x = Make.tester(seed, 8, Make.ints(1, 255), below200);
            int failing = 1;
            while (failing <= 16 && drawn(seed, failing) < 200) {
                failing++;
            }
            int due = failing <= 16 ? failing : 0;
            int cases = failing <= 16 ? failing : 16;
            Check.due("run(16) with seed " + seed, due, x.run(16));
            Check.due("stat(5) with seed " + seed, cases, x.stat(5));
            Check.due("stat(7) with seed " + seed, advanced(seed, cases), x.stat(7));
            Check.due("phase() with seed " + seed, due == 0 ? 0 : 1, x.phase());
            Check.due("choiceAt(0) with seed " + seed, due == 0 ? -1 : drawn(seed, failing), x.choiceAt(0));
            Check.due("seqLength() with seed " + seed, due == 0 ? 0 : 1, x.seqLength());
        }
    }

    private static void carriesTheStateOver() {
        ChoiceShrink x = Make.tester(8, 8, Make.ints(3, 255), Make.ALWAYS);
        x.run(4);
        x.run(1);
        Check.due("stat(5)", 5, x.stat(5));
        Check.due("stat(7)", advanced(8, 15), x.stat(7));
        x.addOp(ChoiceShrink.OP_NOT, 0);
        Check.due("run(3)", 1, x.run(3));
        Check.due("choiceAt(0)", drawn(8, 16), x.choiceAt(0));
        Check.due("stat(5)", 6, x.stat(5));
        x.discard();
        Check.due("run(3) after discard", 1, x.run(3));
        Check.due("choiceAt(0)", drawn(8, 19), x.choiceAt(0));
    }

    private static void invalidCasesCount() {
        ChoiceShrink x = Make.tester(8, 4, Make.ints(5, 255), Make.NEVER);
        Check.due("run(16)", 0, x.run(16));
        Check.due("all after invalid cases",
            "phase 0 S [] O [] V [] stat [0, 0, 9, 1, 0, 16, 1, " + advanced(8, 64)
            + "] cursor [0, 0, 0, 0, 0, 0]", State.of(x));
        Check.due("run(2)", 0, x.run(2));
        Check.due("stat(5)", 18, x.stat(5));
    }

    private static void aFailedTakeDoesNotDraw() {
        for (int cap = 4; cap <= 7; cap++) {
            ChoiceShrink x = Make.tester(8, cap, Make.ints(8, 255), Make.NEVER);
            Check.due("run(1) with cap " + cap, 0, x.run(1));
            Check.due("stat(7) with cap " + cap, advanced(8, cap), x.stat(7));
        }
        ChoiceShrink x = Make.tester(8, 8, Make.ints(8, 255), Make.NEVER);
        Check.due("run(1) with cap 8", 1, x.run(1));
        Check.due("stat(7) with cap 8", advanced(8, 8), x.stat(7));
    }

    private static void leavesTheBuffer() {
        ChoiceShrink x = Make.tester(8, 8, Make.ints(2, 255), Make.ALWAYS);
        Make.feed(x, 91, 92, 93);
        x.run(16);
        Check.due("stat(4)", 3, x.stat(4));
        x.addOp(ChoiceShrink.OP_NOT, 0);
        Check.due("replay()", ChoiceShrink.R_FAILS, x.replay());
        Check.due("S", "[91, 92]", State.sequence(x).toString());
    }

    private static void replaysAsRecorded() {
        ChoiceShrink x = Make.tester(123, 32, LIST_THEN_INT, Make.NEVER);
        Check.due("run(1)", 1, x.run(1));
        String sequence = State.sequence(x).toString();
        String value = State.value(x).toString();
        ChoiceShrink y = Make.tester(1, 32, LIST_THEN_INT, Make.NEVER);
        for (int i = 0; i < x.seqLength(); i++) {
            y.pushChoice(x.choiceAt(i));
        }
        Check.due("replay()", ChoiceShrink.R_FAILS, y.replay());
        Check.due("S", sequence, State.sequence(y).toString());
        Check.due("V", value, State.value(y).toString());
    }

    private static int advanced(int seed, int draws) {
        int state = seed;
        for (int draw = 0; draw < draws; draw++) {
            state = state * 1103515245 + 12345;
        }
        return state;
    }

    private static int drawn(int seed, int draw) {
        return advanced(seed, draw) >>> 16 & 255;
    }

    private static void refuses(ChoiceShrink x) {
        for (int count : new int[] {1, 16, 0, -1}) {
            String before = State.of(x);
            Check.due("run(" + count + ")", -1, x.run(count));
            Check.due("all after a refused run", before, State.of(x));
        }
    }
}
