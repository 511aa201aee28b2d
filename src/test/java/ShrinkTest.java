import java.util.Map;
import java.util.function.Supplier;

/** Promise 7: shrink. */
public final class ShrinkTest {
    /** Shrinking 7, 3 takes 23 trials. */
    private static final int ALL = 23;

    public static void main(String[] args) {
        refusesInIdle();
        refusesInDone();
        clampsTheBudget();
        clampsTheBudgetWhenUnderWay();
        restsBeforeTheNextTrial();
        goesOnThroughStepsThatAreNoTrials();
        stopsWhereTheProcedureEnds();
        endsWithTheLastTrialOfTheBudget();
        anyBudgetsGiveTheSame();
        beginsTheFirstRound();
        endsInDoneWithAClearedCursor();
        describesThePendingTrial();
        countersGrow();
        changesSAndVOnlyWhenAccepted();
        leavesTheRest();
        aSequenceOfTheGreatestLength();
        Check.end("ShrinkTest");
    }

    private static void refusesInIdle() {
        Check.says("Refused (-1, no change) if phase is not PH_FOUND.", "PH_IDLE");
        Moment.idle().values().forEach(ShrinkTest::refuses);
    }

    private static void refusesInDone() {
        Check.says("Refused (-1, no change) if phase is not PH_FOUND.", "PH_DONE");
        Moment.done().values().forEach(ShrinkTest::refuses);
    }

    private static void clampsTheBudget() {
        Check.says("budget is clamped into 1..64.");
        does(0, Make.LEAST, 1);
        does(0, -64, 1);
        does(0, -1, 1);
        does(0, 0, 1);
        does(0, 1, 1);
        does(0, 2, 2);
        does(0, 63, 63);
        does(0, 64, 64);
        does(0, 65, 64);
        does(0, 128, 64);
        does(0, Make.GREATEST, 64);
    }

    private static void clampsTheBudgetWhenUnderWay() {
        Check.says("budget is clamped into 1..64.", "in a call that resumes");
        for (int before : new int[] {1, 30, 39}) {
            does(before, Make.LEAST, 1);
            does(before, 0, 1);
            does(before, 1, 1);
            does(before, 64, 64);
            does(before, 65, 64);
            does(before, Make.GREATEST, 64);
        }
    }

    private static void does(int before, int budget, int trials) {
        ChoiceShrink x = manyTrials();
        if (before > 0) {
            Check.due("shrink(" + before + ")", before, x.shrink(before));
        }
        Check.due("shrink(" + budget + ")", trials, x.shrink(budget));
        Check.due("stat(0) after shrink(" + budget + ")", before + trials, x.stat(0));
        Check.due("phase() after shrink(" + budget + ")", ChoiceShrink.PH_FOUND, x.phase());
    }

    /** Eight choices that must all stay 255 take 20 trials of deleting, 20 of zeroing and 64 of lowering. */
    private static ChoiceShrink manyTrials() {
        return Make.found(8, Make.ints(8, 255), Make.sumIsNot(8, 2040), 255, 255, 255, 255, 255, 255, 255, 255);
    }

    private static void restsBeforeTheNextTrial() {
        Check.says("Performs trials until budget trials were done in this call, then keeps going through steps that "
            + "are not trials up to the next trial or the end of the procedure, resting before that trial.");
        String[] rests = {
            "[1, 1, 0, 0, 0, 0]", "[1, 1, 1, 0, 0, 0]",
            "[2, 2, 0, 0, 0, 0]", "[2, 1, 0, 0, 0, 0]", "[2, 1, 1, 0, 0, 0]",
            "[3, 1, 0, 0, 7, 0]", "[3, 1, 0, 4, 7, 0]", "[3, 1, 0, 6, 7, 0]",
            "[3, 1, 1, 0, 3, 0]", "[3, 1, 1, 2, 3, 0]",
            "[4, 1, 0, 0, 0, 0]",
            "[1, 2, 0, 0, 0, 0]", "[1, 1, 0, 0, 0, 0]", "[1, 1, 1, 0, 0, 0]",
            "[2, 2, 0, 0, 0, 0]", "[2, 1, 0, 0, 0, 0]", "[2, 1, 1, 0, 0, 0]",
            "[3, 1, 0, 0, 3, 0]", "[3, 1, 0, 2, 3, 0]",
            "[3, 1, 1, 0, 7, 0]", "[3, 1, 1, 4, 7, 0]", "[3, 1, 1, 6, 7, 0]",
            "[0, 0, 0, 0, 0, 0]"};
        for (int budget = 1; budget <= ALL; budget++) {
            ChoiceShrink x = Moment.sevenThree(0);
            Check.due("shrink(" + budget + ")", budget, x.shrink(budget));
            Check.due("cursor after " + budget + " trials", rests[budget - 1], State.cursor(x).toString());
            Check.due("stat(0) after " + budget + " trials", budget, x.stat(0));
        }
        ChoiceShrink x = Moment.sevenThree(0);
        for (int trial = 1; trial <= ALL; trial++) {
            Check.due("shrink(1)", 1, x.shrink(1));
            Check.due("cursor after trial " + trial, rests[trial - 1], State.cursor(x).toString());
        }
    }

    private static void goesOnThroughStepsThatAreNoTrials() {
        Check.says("then keeps going through steps that are not trials up to the next trial", "into the next round");
        ChoiceShrink x = Make.found(8, Make.LIST_OF_INT, Make.NEVER, 1, 5, 1, 6, 1, 7, 0);
        Check.due("shrink(1)", 1, x.shrink(1));
        Check.due("cursor", "[1, 2, 0, 0, 0, 1]", State.cursor(x).toString());
        Check.due("shrink(1)", 1, x.shrink(1));
        Check.due("S", "[0]", State.sequence(x).toString());
        Check.due("cursor", "[1, 1, 0, 0, 0, 1]", State.cursor(x).toString());
        // Nothing is left to zero, to lower or to sort: the next trial is the first of round two.
        Check.due("shrink(1)", 1, x.shrink(1));
        Check.due("cursor", "[1, 1, 0, 0, 0, 0]", State.cursor(x).toString());
        Check.due("phase()", ChoiceShrink.PH_FOUND, x.phase());
    }

    private static void stopsWhereTheProcedureEnds() {
        Check.says("If the procedure ends earlier, the call stops there. Answers the number of trials done in this "
            + "call.");
        for (int budget : new int[] {ALL, ALL + 1, 64, 65, Make.GREATEST}) {
            ChoiceShrink x = Moment.sevenThree(0);
            Check.due("shrink(" + budget + ")", ALL, x.shrink(budget));
            Check.due("phase() after shrink(" + budget + ")", ChoiceShrink.PH_DONE, x.phase());
            Check.due("stat(0) after shrink(" + budget + ")", ALL, x.stat(0));
        }
        ChoiceShrink least = Make.found(8, Make.LIST_OF_INT, Make.NEVER, 0);
        Check.due("shrink(64) of the least", 1, least.shrink(64));
        Check.due("phase() of the least", ChoiceShrink.PH_DONE, least.phase());
    }

    private static void endsWithTheLastTrialOfTheBudget() {
        Check.says("up to the next trial or the end of the procedure", "the end, with the budget's last trial");
        ChoiceShrink oneLess = Moment.sevenThree(ALL - 1);
        Check.due("phase() before the last trial", ChoiceShrink.PH_FOUND, oneLess.phase());
        Check.due("cursor before the last trial", "[3, 1, 1, 6, 7, 0]", State.cursor(oneLess).toString());
        Check.due("shrink(1)", 1, oneLess.shrink(1));
        Check.due("phase() after the last trial", ChoiceShrink.PH_DONE, oneLess.phase());
        Check.due("phase() after all", ChoiceShrink.PH_DONE, Moment.sevenThree(ALL).phase());
    }

    private static void anyBudgetsGiveTheSame() {
        Check.says("Continues the SHRINK PROCEDURE.");
        ChoiceShrink whole = Moment.sevenThree(0);
        Check.due("shrink(64)", ALL, whole.shrink(64));
        for (int budget = 1; budget <= 25; budget++) {
            ChoiceShrink parts = Moment.sevenThree(0);
            int left = ALL;
            for (int call = 0; call < 25 && parts.phase() == ChoiceShrink.PH_FOUND; call++) {
                int due = left < budget ? left : budget;
                Check.due("shrink(" + budget + ")", due, parts.shrink(budget));
                left -= due;
            }
            Check.due("all after shrinking by " + budget, State.of(whole), State.of(parts));
        }
    }

    private static void beginsTheFirstRound() {
        Check.says("When the procedure starts from NOT STARTED it begins the first round.");
        for (Map.Entry<String, Supplier<ChoiceShrink>> moment : Moment.found().entrySet()) {
            ChoiceShrink x = moment.getValue().get();
            if (x.stat(0) == 0) {
                Check.due(moment.getKey() + ": cursor", "[0, 0, 0, 0, 0, 0]", State.cursor(x).toString());
                Check.due(moment.getKey() + ": shrink(1)", 1, x.shrink(1));
                Check.due(moment.getKey() + ": cursor", "[1, 1, 0, 0, 0, 0]", State.cursor(x).toString());
            }
        }
        // A finding after a discard starts anew, not where the earlier one rested.
        ChoiceShrink x = Moment.sevenThree(9);
        x.discard();
        Make.feed(x, 7, 3);
        Check.due("replay()", ChoiceShrink.R_FAILS, x.replay());
        Check.due("cursor of the second finding", "[0, 0, 0, 0, 0, 0]", State.cursor(x).toString());
        Check.due("shrink(1)", 1, x.shrink(1));
        Check.due("cursor of the second finding", "[1, 1, 0, 0, 0, 0]", State.cursor(x).toString());
    }

    private static void endsInDoneWithAClearedCursor() {
        Check.says("When a round ends with improved = 0 the phase becomes PH_DONE and the cursor reads all 0");
        ChoiceShrink x = Moment.sevenThree(ALL);
        Check.due("all of a done one",
            "phase 2 S [3, 7] O [7, 3] V [3, 7] stat [23, 1, 3, 8, 2, 0, 1, 1] cursor [0, 0, 0, 0, 0, 0]", State.of(x));
    }

    private static void describesThePendingTrial() {
        Check.says("otherwise the phase stays PH_FOUND and the cursor describes the pending trial");
        for (int trials = 1; trials < ALL; trials++) {
            ChoiceShrink x = Moment.sevenThree(trials);
            Check.due("phase() after " + trials, ChoiceShrink.PH_FOUND, x.phase());
            Check.due("a pass after " + trials, 1, x.cursor(0) >= 1 && x.cursor(0) <= 4 ? 1 : 0);
        }
    }

    private static void countersGrow() {
        Check.says("trials and accepted grow by the trials done and accepted");
        ChoiceShrink x = Moment.sevenThree(0);
        Check.due("shrink(5)", 5, x.shrink(5));
        Check.due("stat(0)", 5, x.stat(0));
        Check.due("shrink(6)", 6, x.shrink(6));
        Check.due("stat(0)", 11, x.stat(0));
        Check.due("stat(1)", 0, x.stat(1));
        Check.due("shrink(1)", 1, x.shrink(1));
        Check.due("stat(0)", 12, x.stat(0));
        Check.due("stat(1)", 1, x.stat(1));
        Check.due("shrink(64)", 11, x.shrink(64));
        Check.due("stat(0)", ALL, x.stat(0));
        Check.due("stat(1)", 1, x.stat(1));
    }

    private static void changesSAndVOnlyWhenAccepted() {
        Check.says("S and V change only on accepted trials.");
        for (int trials = 1; trials <= ALL; trials++) {
            ChoiceShrink x = Moment.sevenThree(trials);
            String due = trials < 12 ? "[7, 3]" : "[3, 7]";
            Check.due("S after " + trials, due, State.sequence(x).toString());
            Check.due("V after " + trials, due, State.value(x).toString());
            Check.due("stat(1) after " + trials, trials < 12 ? 0 : 1, x.stat(1));
        }
    }

    private static void leavesTheRest() {
        Check.says("O, M, the generator, program, PRNG state and cases never change.");
        ChoiceShrink x = Make.tester(7, 16, Make.LIST_OF_INT, Make.NEVER);
        Make.feed(x, 4, 5);
        Check.due("run(16)", 1, x.run(16));
        String original = State.original(x).toString();
        int state = x.stat(7);
        for (int call = 0; call < 99 && x.phase() == ChoiceShrink.PH_FOUND; call++) {
            x.shrink(1);
            Check.due("O", original, State.original(x).toString());
            Check.due("stat(2)", 2, x.stat(2));
            Check.due("stat(3)", 1, x.stat(3));
            Check.due("stat(4)", 2, x.stat(4));
            Check.due("stat(5)", 1, x.stat(5));
            Check.due("stat(6)", 1, x.stat(6));
            Check.due("stat(7)", state, x.stat(7));
        }
        Check.due("phase()", ChoiceShrink.PH_DONE, x.phase());
        Check.due("S", "[0]", State.sequence(x).toString());
        Future.same("a shrink and a discard", () -> shrunkAndDiscarded(0), () -> shrunkAndDiscarded(9));
    }

    private static ChoiceShrink shrunkAndDiscarded(int calls) {
        ChoiceShrink x = Make.tester(7, 16, Make.LIST_OF_INT, Make.NEVER);
        x.run(16);
        for (int call = 0; call < calls; call++) {
            x.shrink(3);
        }
        x.discard();
        return x;
    }

    /** It fails only where there are all eight elements. */
    private static void aSequenceOfTheGreatestLength() {
        Check.says("Continues the SHRINK PROCEDURE.", "with as many choices as there can be");
        ChoiceShrink x = Make.tester(1, 32, Make.LIST_OF_THREE, Make.lengthIsNot(25));
        String s = "";
        String v = "";
        for (int element = 0; element < 8; element++) {
            Make.feed(x, 2, 9, 9, 9);
            s += ", 1, 0, 0, 0";
            v += ", 0, 0, 0";
        }
        Check.due("replay()", ChoiceShrink.R_FAILS, x.replay());
        Check.due("seqLength()", 32, x.seqLength());
        for (int call = 0; call < 5; call++) {
            Check.due("shrink(64)", 64, x.shrink(64));
        }
        Check.due("shrink(64)", 24, x.shrink(64));
        Check.due("S", "[" + s.substring(2) + "]", State.sequence(x).toString());
        Check.due("V", "[8" + v + "]", State.value(x).toString());
        Check.due("stat(0)", 344, x.stat(0));
        Check.due("stat(1)", 24, x.stat(1));
        Check.due("phase()", ChoiceShrink.PH_DONE, x.phase());
    }

    private static void refuses(Supplier<ChoiceShrink> made) {
        for (int budget : new int[] {Make.LEAST, -1, 0, 1, 64, 65, Make.GREATEST}) {
            Refused.due("shrink(" + budget + ")", made, x -> x.shrink(budget));
        }
    }
}
