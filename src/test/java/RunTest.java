import java.lang.reflect.Field;
import java.lang.reflect.Modifier;
import java.util.ArrayList;
import java.util.List;
import java.util.function.Supplier;

/** Promise 6: run, and the Term "Random". */
public final class RunTest {
    private static final int INT = ChoiceShrink.G_INT;
    private static final int LIST = ChoiceShrink.G_LIST;
    private static final int PAIR = ChoiceShrink.G_PAIR;

    private static final int[][] LIST_THEN_INT = {{PAIR, 0}, {LIST, 0}, {INT, 99}, {INT, 6}};
    private static final int[][] FIRST_IS_BELOW_200 = {
        {ChoiceShrink.OP_PUSH, 0}, {ChoiceShrink.OP_VAL, 0}, {ChoiceShrink.OP_PUSH, 200}, {ChoiceShrink.OP_LT, 0}};

    public static void main(String[] args) throws IllegalAccessException {
        refusesOutsideIdle();
        refusesWithoutACompleteGenerator();
        refusesAnEmptyProgram();
        clampsTheCount();
        clampsTheCountOfFailingCases();
        countsCases();
        casesWrap();
        findsTheWholeRecord();
        findsAnew();
        answersTheFailingCase();
        answersZeroWhenNoneFailed();
        invalidCasesCount();
        carriesTheStateOver();
        leavesTheBuffer();
        aFailedTakeDoesNotDraw();
        theStateWraps();
        drawsInts();
        drawsLists();
        Check.end("RunTest");
    }

    private static void refusesOutsideIdle() {
        Check.says("Random testing. Refused (-1, no change) if phase is not PH_IDLE");
        Moment.found().values().forEach(RunTest::refuses);
        Moment.done().values().forEach(RunTest::refuses);
    }

    private static void refusesWithoutACompleteGenerator() {
        Check.says("the generator is not complete");
        refuses(() -> Make.tester(1, 8, Make.NOTHING, Make.NEVER));
        refuses(() -> Make.tester(1, 8, new int[][] {{LIST, 0}}, Make.NEVER));
        refuses(() -> Make.tester(1, 8, new int[][] {{PAIR, 0}, {INT, 5}}, Make.NEVER));
        refuses(() -> Make.tester(1, 8, Make.repeated(16, LIST, 0), Make.NEVER));
        Check.due("run(1) with one node", 1, Make.tester(1, 8, Make.ints(1, 0), Make.NEVER).run(1));
    }

    private static void refusesAnEmptyProgram() {
        Check.says("or the program is empty");
        refuses(() -> new ChoiceShrink(1, 8));
        refuses(() -> Make.tester(1, 8, Make.ints(1, 255), Make.NOTHING));
        refuses(() -> Make.tester(1, 8, Make.ints(8, 255), Make.NOTHING));
    }

    private static void clampsTheCount() {
        Check.says("count is clamped into 1..16.");
        runs(Make.LEAST, 1);
        runs(-16, 1);
        runs(-1, 1);
        runs(0, 1);
        runs(1, 1);
        runs(2, 2);
        runs(15, 15);
        runs(16, 16);
        runs(17, 16);
        runs(32, 16);
        runs(Make.GREATEST, 16);
    }

    private static void runs(int count, int cases) {
        ChoiceShrink x = Make.tester(5, 8, Make.ints(2, 255), Make.ALWAYS);
        Check.due("run(" + count + ")", 0, x.run(count));
        Check.due("all after run(" + count + ")",
            "phase 0 S [] O [] V [] stat [0, 0, 3, 1, 0, " + cases + ", 1, " + advanced(5, 2 * cases)
            + "] cursor [0, 0, 0, 0, 0, 0]", State.of(x));
    }

    private static void clampsTheCountOfFailingCases() {
        Check.says("count is clamped into 1..16.", "a case that would fail just inside and just outside");
        int sixteenth = seedFailingFirstAt(16);
        for (int count : new int[] {16, 17, Make.GREATEST}) {
            Check.due("run(" + count + ") failing at 16", 16, oneInt(sixteenth).run(count));
        }
        Check.due("run(15) failing at 16", 0, oneInt(sixteenth).run(15));
        int seventeenth = seedFailingFirstAt(17);
        for (int count : new int[] {16, 17, Make.GREATEST}) {
            Check.due("run(" + count + ") failing at 17", 0, oneInt(seventeenth).run(count));
        }
        int second = seedFailingFirstAt(2);
        for (int count : new int[] {Make.LEAST, -1, 0, 1}) {
            Check.due("run(" + count + ") failing at 2", 0, oneInt(second).run(count));
        }
        Check.due("run(2) failing at 2", 2, oneInt(second).run(2));
        int first = seedFailingFirstAt(1);
        for (int count : new int[] {Make.LEAST, -1, 0, 1, 2, 16, 17}) {
            Check.due("run(" + count + ") failing at 1", 1, oneInt(first).run(count));
        }
    }

    private static ChoiceShrink oneInt(int seed) {
        return Make.tester(seed, 8, Make.ints(1, 255), FIRST_IS_BELOW_200);
    }

    /** The first seed whose draws are below 200 but for the one of this case. */
    private static int seedFailingFirstAt(int failing) {
        for (int seed = 0; seed <= 65535; seed++) {
            int at = 1;
            while (at < failing && drawn(seed, at) < 200) {
                at++;
            }
            if (at == failing && drawn(seed, failing) >= 200) {
                return seed;
            }
        }
        Check.due("a seed that fails first at " + failing, 1, 0);
        return 0;
    }

    private static void countsCases() {
        Check.says("For case j = 1..count in turn: cases := cases+1");
        ChoiceShrink x = Make.tester(5, 8, Make.ints(2, 255), Make.ALWAYS);
        int sum = 0;
        for (int count = 1; count <= 16; count++) {
            x.run(count);
            sum += count;
            Check.due("stat(5) after run(" + count + ")", sum, x.stat(5));
        }
        ChoiceShrink never = Make.tester(5, 8, Make.ints(2, 255), Make.NEVER);
        for (int found = 1; found <= 3; found++) {
            never.run(16);
            Check.due("stat(5) after finding " + found, found, never.stat(5));
            never.discard();
        }
    }

    private static void casesWrap() throws IllegalAccessException {
        Check.says("cases := cases+1 (Java int wrapping)");
        ChoiceShrink x = Make.tester(5, 4, Make.ints(1, 0), Make.ALWAYS);
        countTo(x, Make.GREATEST - 1);
        Check.due("stat(5) before", Make.GREATEST - 1, x.stat(5));
        Check.due("run(1)", 0, x.run(1));
        Check.due("stat(5) at the greatest", Make.GREATEST, x.stat(5));
        Check.due("run(1)", 0, x.run(1));
        Check.due("stat(5) wrapped", Make.LEAST, x.stat(5));
        Check.due("run(16)", 0, x.run(16));
        Check.due("stat(5) from there on", Make.LEAST + 16, x.stat(5));
        x.addOp(ChoiceShrink.OP_NOT, 0);
        Check.due("run(16)", 1, x.run(16));
        Check.due("stat(5) of a finding", Make.LEAST + 17, x.stat(5));
        x.discard();
        Check.due("stat(5) after discard", Make.LEAST + 17, x.stat(5));
    }

    /**
     * Two thousand million cases take half a minute, so the counter is set where it is found. Where it is not kept as
     * an int, the cases are run.
     */
    private static void countTo(ChoiceShrink x, int cases) throws IllegalAccessException {
        for (Field field : ChoiceShrink.class.getDeclaredFields()) {
            boolean settable = field.getType() == int.class && !Modifier.isFinal(field.getModifiers());
            if (settable && x.stat(5) != cases && field.trySetAccessible()) {
                int before = field.getInt(x);
                field.setInt(x, cases);
                if (x.stat(5) != cases) {
                    field.setInt(x, before);
                }
            }
        }
        for (int call = 0; call < 1 << 28 && x.stat(5) != cases; call++) {
            int left = cases - x.stat(5);
            x.run(left < 16 ? left : 16);
        }
    }

    private static void findsTheWholeRecord() {
        Check.says("a RANDOM generation with a fresh empty record; if it is valid and the property FAILS on its value, "
            + "the record (all draws of the case) is FOUND");
        ChoiceShrink x = Make.tester(60000, 32, Make.ints(8, 255), Make.NEVER);
        Check.due("run(9)", 1, x.run(9));
        List<Integer> want = new ArrayList<>();
        for (int draw = 1; draw <= 8; draw++) {
            want.add(drawn(60000, draw));
        }
        Check.due("all after run",
            "phase 1 S " + want + " O " + want + " V " + want + " stat [0, 0, 15, 1, 0, 1, 1, "
            + advanced(60000, 8) + "] cursor [0, 0, 0, 0, 0, 0]", State.of(x));
    }

    /** Whatever an earlier finding left behind. */
    private static void findsAnew() {
        Check.says("Finding a counterexample sequence F (by replay or run): S := F, O := F, V := its value, trials := "
            + "0, accepted := 0, cursor NOT STARTED, phase := PH_FOUND.");
        for (int trials = 0; trials <= 23; trials++) {
            ChoiceShrink x = Moment.sevenThree(trials);
            x.discard();
            for (int call = 0; call < 2000 && x.phase() == ChoiceShrink.PH_IDLE; call++) {
                x.run(16);
            }
            isFound("run", x, x.choiceAt(0), 10 - x.choiceAt(0));
            x.discard();
            Make.feed(x, 9, 1, 5);
            Check.due("replay()", ChoiceShrink.R_FAILS, x.replay());
            isFound("replay", x, 9, 1);
        }
    }

    private static void isFound(String by, ChoiceShrink x, int first, int second) {
        String f = "[" + first + ", " + second + "]";
        Check.due("S by " + by, f, State.sequence(x).toString());
        Check.due("O by " + by, f, State.original(x).toString());
        Check.due("V by " + by, f, State.value(x).toString());
        Check.due("trials by " + by, 0, x.stat(0));
        Check.due("accepted by " + by, 0, x.stat(1));
        Check.due("cursor by " + by, "[0, 0, 0, 0, 0, 0]", State.cursor(x).toString());
        Check.due("phase by " + by, ChoiceShrink.PH_FOUND, x.phase());
    }

    private static void answersTheFailingCase() {
        Check.says("is FOUND and the call answers j at once, doing no further cases.");
        for (int seed = 0; seed < 300; seed++) {
            int failing = 1;
            while (failing <= 16 && drawn(seed, failing) < 200) {
                failing++;
            }
            int due = failing <= 16 ? failing : 0;
            int cases = failing <= 16 ? failing : 16;
            ChoiceShrink x = oneInt(seed);
            Check.due("run(16) with seed " + seed, due, x.run(16));
            Check.due("stat(5) with seed " + seed, cases, x.stat(5));
            Check.due("stat(7) with seed " + seed, advanced(seed, cases), x.stat(7));
            Check.due("phase() with seed " + seed, due == 0 ? 0 : 1, x.phase());
            Check.due("choiceAt(0) with seed " + seed, due == 0 ? -1 : drawn(seed, failing), x.choiceAt(0));
            // The record is fresh in each case: the earlier cases' draws are not in it.
            Check.due("seqLength() with seed " + seed, due == 0 ? 0 : 1, x.seqLength());
        }
    }

    private static void answersZeroWhenNoneFailed() {
        Check.says("Answers 0 when no case failed; then the phase stays PH_IDLE and S, O, V stay empty.");
        for (int count : new int[] {1, 16}) {
            ChoiceShrink x = Make.tester(8, 8, Make.ints(3, 255), Make.ALWAYS);
            Check.due("run(" + count + ")", 0, x.run(count));
            Check.due("all after it",
                "phase 0 S [] O [] V [] stat [0, 0, 5, 1, 0, " + count + ", 1, " + advanced(8, 3 * count)
                + "] cursor [0, 0, 0, 0, 0, 0]", State.of(x));
        }
    }

    private static void invalidCasesCount() {
        Check.says("Invalid cases (a take after cap draws, or a 33rd cell) count as cases and do not fail.");
        ChoiceShrink x = Make.tester(8, 4, Make.ints(5, 255), Make.NEVER);
        Check.due("run(16)", 0, x.run(16));
        Check.due("all after invalid cases",
            "phase 0 S [] O [] V [] stat [0, 0, 9, 1, 0, 16, 1, " + advanced(8, 64)
            + "] cursor [0, 0, 0, 0, 0, 0]", State.of(x));
        Check.due("run(2)", 0, x.run(2));
        Check.due("stat(5)", 18, x.stat(5));
        anInvalidCaseIsPassedOver();
    }

    /** With cap 4 a list of two ints or more is invalid, and the next case is run. */
    private static void anInvalidCaseIsPassedOver() {
        int passed = 0;
        for (int seed = 0; seed < 40; seed++) {
            int draws = 0;
            int invalid = 0;
            while (drawn(seed, draws + 1) % 4 != 0 && drawn(seed, draws + 3) % 4 != 0) {
                draws += 4;
                invalid++;
            }
            ChoiceShrink x = Make.tester(seed, 4, Make.LIST_OF_INT, Make.NEVER);
            Check.due("run(16) with seed " + seed, invalid + 1, x.run(16));
            Check.due("stat(5) with seed " + seed, invalid + 1, x.stat(5));
            passed += invalid;
        }
        Check.due("some cases were invalid", 1, passed > 0 ? 1 : 0);
    }

    private static void carriesTheStateOver() {
        Check.says("The PRNG state carries over between cases and between calls; a failed take does not advance it.");
        ChoiceShrink x = Make.tester(8, 8, Make.ints(3, 255), Make.ALWAYS);
        x.run(4);
        Check.due("stat(7)", advanced(8, 12), x.stat(7));
        x.run(1);
        Check.due("stat(5)", 5, x.stat(5));
        Check.due("stat(7)", advanced(8, 15), x.stat(7));
        x.addOp(ChoiceShrink.OP_NOT, 0);
        Check.due("run(3)", 1, x.run(3));
        Check.due("choiceAt(0)", drawn(8, 16), x.choiceAt(0));
        Check.due("stat(5)", 6, x.stat(5));
        x.discard();
        Check.due("run(3) after discard", 1, x.run(3));
        Check.due("choiceAt(0)", drawn(8, 19), x.choiceAt(0));
        // Each invalid case ends with its fifth take, and the next one draws what that would have drawn.
        ChoiceShrink invalid = Make.tester(8, 4, Make.ints(5, 255), Make.NEVER);
        for (int call = 1; call <= 3; call++) {
            Check.due("run(2) of invalid cases", 0, invalid.run(2));
            Check.due("stat(7) after " + 2 * call + " invalid cases", advanced(8, 8 * call), invalid.stat(7));
        }
    }

    private static void leavesTheBuffer() {
        Check.says("M is not used and not changed.");
        ChoiceShrink x = Make.tester(8, 8, Make.ints(2, 255), Make.ALWAYS);
        Make.feed(x, 91, 92, 93);
        x.run(16);
        Check.due("stat(4)", 3, x.stat(4));
        x.addOp(ChoiceShrink.OP_NOT, 0);
        Check.due("replay()", ChoiceShrink.R_FAILS, x.replay());
        Check.due("S", "[91, 92]", State.sequence(x).toString());
        // A full buffer leaves the draws their room.
        ChoiceShrink full = Make.tester(8, 4, Make.ints(4, 255), Make.NEVER);
        Make.feed(full, 91, 92, 93, 94);
        Check.due("run(1)", 1, full.run(1));
        Check.due("choiceAt(3)", drawn(8, 4), full.choiceAt(3));
        Check.due("stat(4)", 4, full.stat(4));
    }

    private static void aFailedTakeDoesNotDraw() {
        Check.says("Random drawing: a take when cap choices have already been taken fails and leaves the PRNG as is.");
        for (int cap = 4; cap <= 7; cap++) {
            ChoiceShrink x = Make.tester(8, cap, Make.ints(8, 255), Make.NEVER);
            Check.due("run(1) with cap " + cap, 0, x.run(1));
            Check.due("stat(7) with cap " + cap, advanced(8, cap), x.stat(7));
        }
        ChoiceShrink x = Make.tester(8, 8, Make.ints(8, 255), Make.NEVER);
        Check.due("run(1) with cap 8", 1, x.run(1));
        Check.due("seqLength() with cap 8", 8, x.seqLength());
        Check.due("stat(7) with cap 8", advanced(8, 8), x.stat(7));
    }

    private static void theStateWraps() {
        Check.says("Otherwise state := state * 1103515245 + 12345 (32-bit wrapping int)");
        statesFrom(0, 12345, -740551042, -1492899873);
        statesFrom(1, 1103527590, -1770082073, 662824084);
        statesFrom(2, -2087924461, 1495354192, -1476419255);
        statesFrom(65534, -891251873, -385883732, 1656598133);
        statesFrom(65535, 212263372, -1415414763, -482645206);
    }

    private static void statesFrom(int seed, int... states) {
        ChoiceShrink x = Make.tester(seed, 8, Make.ints(1, 255), Make.ALWAYS);
        for (int state : states) {
            x.run(1);
            Check.due("stat(7) from " + seed, state, x.stat(7));
        }
    }

    private static void drawsInts() {
        Check.says("r := (state >>> 16) & 255; the choice is r % (b+1) for a G_INT b take");
        // From 65534 the draws are 224 and 255, from 65535 they are 166 and 162, the second ones of negative states.
        ChoiceShrink literal = Make.tester(65534, 8, Make.ints(2, 255), Make.NEVER);
        literal.run(1);
        Check.due("S from 65534", "[224, 255]", State.sequence(literal).toString());
        literal = Make.tester(65535, 8, Make.ints(2, 255), Make.NEVER);
        literal.run(1);
        Check.due("S from 65535", "[166, 162]", State.sequence(literal).toString());
        for (int bound = 0; bound <= 255; bound++) {
            ChoiceShrink x = Make.tester(33, 8, Make.ints(3, bound), Make.NEVER);
            Check.due("run(1) with bound " + bound, 1, x.run(1));
            for (int i = 0; i < 3; i++) {
                int want = drawn(33, i + 1) % (bound + 1);
                Check.due("choice " + i + " with bound " + bound, want, x.choiceAt(i));
                Check.due("cell " + i + " with bound " + bound, want, x.valueAt(i));
            }
        }
    }

    /** The list's draws are 0..3, whatever the bound of its element. */
    private static void drawsLists() {
        Check.says("and r % 4 for a G_LIST take, and it is recorded");
        int full = 0;
        for (int seed = 0; seed < 200; seed++) {
            ChoiceShrink x = Make.tester(seed, 32, LIST_THEN_INT, Make.NEVER);
            Check.due("run(1) with seed " + seed, 1, x.run(1));
            List<Integer> choices = new ArrayList<>();
            List<Integer> value = new ArrayList<>();
            int draw = listDraws(seed, choices, value);
            int last = drawn(seed, draw + 1) % 7;
            choices.add(last);
            value.add(last);
            Check.due("S with seed " + seed, choices.toString(), State.sequence(x).toString());
            Check.due("V with seed " + seed, value.toString(), State.value(x).toString());
            Check.due("stat(7) with seed " + seed, advanced(seed, draw + 1), x.stat(7));
            full += value.get(0) == 8 ? 1 : 0;
        }
        Check.due("some lists were full", 1, full > 0 ? 1 : 0);
    }

    private static int listDraws(int seed, List<Integer> choices, List<Integer> value) {
        value.add(0);
        int draw = 0;
        while (value.get(0) < 8) {
            draw++;
            int more = drawn(seed, draw) % 4;
            choices.add(more);
            if (more == 0) {
                return draw;
            }
            draw++;
            int element = drawn(seed, draw) % 100;
            choices.add(element);
            value.add(element);
            value.set(0, value.get(0) + 1);
        }
        return draw;
    }

    private static int advanced(int seed, int draws) {
        int state = seed;
        for (int draw = 0; draw < draws; draw++) {
            state = state * 1103515245 + 12345;
        }
        return state;
    }

    private static int drawn(int seed, int draw) {
        return advanced(seed, draw) >>> 16 & 255;
    }

    private static void refuses(Supplier<ChoiceShrink> made) {
        for (int count : new int[] {Make.LEAST, -1, 0, 1, 16, 17, Make.GREATEST}) {
            Refused.due("run(" + count + ")", made, x -> x.run(count));
        }
    }
}
