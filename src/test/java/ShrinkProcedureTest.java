/** The Terms "TRIAL", "Shrink procedure" and "Cursor": where each loop begins, ends and goes on, trial by trial. */
public final class ShrinkProcedureTest {
    private static final int PUSH = ChoiceShrink.OP_PUSH;
    private static final int VAL = ChoiceShrink.OP_VAL;
    private static final int LEN = ChoiceShrink.OP_LEN;
    private static final int ADD = ChoiceShrink.OP_ADD;
    private static final int MUL = ChoiceShrink.OP_MUL;
    private static final int LT = ChoiceShrink.OP_LT;
    private static final int EQ = ChoiceShrink.OP_EQ;
    private static final int NOT = ChoiceShrink.OP_NOT;

    private static final String DONE = "0 0 0 0 0 0";

    private static final int[][] INT_THEN_LIST = {{ChoiceShrink.G_PAIR, 0}, {ChoiceShrink.G_INT, 255},
        {ChoiceShrink.G_LIST, 0}, {ChoiceShrink.G_INT, 255}};
    private static final int[][] LIST_THEN_INT = {{ChoiceShrink.G_PAIR, 0}, {ChoiceShrink.G_LIST, 0},
        {ChoiceShrink.G_INT, 255}, {ChoiceShrink.G_INT, 255}};
    private static final int[][] LIST_OF_TWO = {{ChoiceShrink.G_LIST, 0}, {ChoiceShrink.G_PAIR, 0},
        {ChoiceShrink.G_INT, 255}, {ChoiceShrink.G_INT, 255}};

    public static void main(String[] args) {
        aTrialThatHoldsChangesNothing();
        aTrialThatIsInvalidChangesNothing();
        anAcceptedTrialIsKept();
        shorterIsLess();
        theFirstDifferenceDecides();
        theConsumedPrefixIsKept();
        deletesInOneChoice();
        deletesInTwoChoices();
        deletesInThreeChoices();
        deletesInFourChoices();
        deletesInFiveChoices();
        deletesAgainAtTheSamePlace();
        deletesWithoutMakingUpForIt();
        zeroesNoBlockOfZeros();
        zeroesBlocksThatBeginOtherwise();
        zeroesBlocksThatHoldOneInside();
        zeroesAndGoesOn();
        zeroesAndShortens();
        lowersNoZero();
        lowersOneInOneTrial();
        lowersTwoInOneTrial();
        lowersTheGreatestUpwards();
        lowersTheGreatestDownwards();
        lowersAndShortens();
        sortsNoSingleChoice();
        sortsNoEqualPair();
        sortsNoAscendingPair();
        sortsADescendingPair();
        sortsAndGoesOn();
        sortsAndShortens();
        goesThroughThePassesInOrder();
        beginsANewRound();
        endsWithoutOne();
        readsZeroWhereNoTrialIsPending();
        neverGrows();
        Check.end("ShrinkProcedureTest");
    }

    // Trials

    private static void aTrialThatHoldsChangesNothing() {
        Check.says("Otherwise nothing else changes.", "C holds");
        // The last three trials of pass 2 on 7, 3 hold.
        ChoiceShrink x = Moment.sevenThree(3);
        for (int trials = 4; trials <= 6; trials++) {
            x.shrink(1);
            isAt(x, "[7, 3]", "[7, 3]", trials, 0);
        }
    }

    private static void aTrialThatIsInvalidChangesNothing() {
        Check.says("Otherwise nothing else changes.", "C is invalid");
        ChoiceShrink x = Moment.sevenThree(0);
        for (int trials = 1; trials <= 3; trials++) {
            x.shrink(1);
            isAt(x, "[7, 3]", "[7, 3]", trials, 0);
        }
    }

    private static void anAcceptedTrialIsKept() {
        Check.says("TRIAL(C): trials := trials+1. If the outcome of C is R_FAILS and its consumed prefix P is "
            + "shortlex-less than S, the trial is ACCEPTED: S := P, V := the value generated, accepted := accepted+1.");
        ChoiceShrink x = Moment.sevenThree(11);
        isAt(x, "[7, 3]", "[7, 3]", 11, 0);
        x.shrink(1);
        isAt(x, "[3, 7]", "[3, 7]", 12, 1);
        Check.due("O", "[7, 3]", State.original(x).toString());
    }

    private static void shorterIsLess() {
        Check.says("Shortlex order: A < B iff len(A) < len(B)", "whatever the choices are");
        int[][] isEmpty = Make.program(LEN, 0, PUSH, 2, LT, 0);
        ChoiceShrink x = Make.found(8, Make.LIST_OF_INT, isEmpty, 1, 5, 2, 7, 0);
        // Four removed leave 0, which holds, and 1, which is invalid; then 1, 5 is removed.
        rests(x, "1 4 1 0 0 0", "1 2 0 0 0 0", "1 2 0 0 0 1");
        isAt(x, "[2, 7, 0]", "[1, 7]", 3, 1);
    }

    private static void theFirstDifferenceDecides() {
        Check.says("Shortlex order: A < B iff len(A) < len(B), or the lengths are equal and at the first position "
            + "where they differ A has the smaller choice.");
        // 3, 7 is less than 7, 3, though its second choice is greater.
        ChoiceShrink x = Moment.sevenThree(12);
        isAt(x, "[3, 7]", "[3, 7]", 12, 1);
        // The same behind an equal beginning: 1, 2, 9 is less than 1, 9, 2.
        ChoiceShrink y = Make.found(8, Make.ints(3, 255), Make.program(
            PUSH, 0, VAL, 0, PUSH, 1, EQ, 0, PUSH, 1, VAL, 0, PUSH, 2, VAL, 0, MUL, 0, PUSH, 18, EQ, 0, MUL, 0,
            PUSH, 1, VAL, 0, PUSH, 2, VAL, 0, ADD, 0, PUSH, 11, EQ, 0, MUL, 0, NOT, 0), 1, 9, 2);
        y.shrink(64);
        Check.due("S", "[1, 2, 9]", State.sequence(y).toString());
        Check.due("stat(1)", 1, y.stat(1));
    }

    /** Fails where there are three elements, or where the first is 1. */
    private static void theConsumedPrefixIsKept() {
        Check.says("and its consumed prefix P is shortlex-less than S, the trial is ACCEPTED: S := P");
        int[][] program = Make.program(LEN, 0, PUSH, 4, EQ, 0, PUSH, 1, VAL, 0, PUSH, 1, EQ, 0, ADD, 0, NOT, 0);
        ChoiceShrink x = Make.found(8, Make.LIST_OF_INT, program, 1, 5, 1, 0, 1, 7, 0);
        Check.due("shrink(10)", 10, x.shrink(10));
        isAt(x, "[1, 5, 1, 0, 1, 7, 0]", "[3, 5, 0, 7]", 10, 0);
        // Without the first choice 5, 1, 0 is a whole list, and 1, 7, 0 is left over.
        rests(x, "1 1 0 0 0 1");
        isAt(x, "[5, 1, 0]", "[1, 1]", 11, 1);
    }

    // Pass 1

    private static void deletesInOneChoice() {
        Check.says("Pass 1 (delete): for k = 4, then 2, then 1: i := 0; while i+k <= n", "n = 1");
        rests(exactly(1), "2 1 0 0 0 0", "3 1 0 0 1 0", DONE);
    }

    private static void deletesInTwoChoices() {
        Check.says("Pass 1 (delete): for k = 4, then 2, then 1: i := 0; while i+k <= n", "n = 2");
        rests(exactly(0, 1), "1 1 0 0 0 0", "1 1 1 0 0 0", "2 2 0 0 0 0", "2 1 1 0 0 0", "3 1 1 0 1 0", DONE);
    }

    private static void deletesInThreeChoices() {
        Check.says("Pass 1 (delete): for k = 4, then 2, then 1: i := 0; while i+k <= n", "n = 3");
        rests(exactly(0, 0, 1), "1 2 1 0 0 0", "1 1 0 0 0 0", "1 1 1 0 0 0", "1 1 2 0 0 0",
            "2 2 1 0 0 0", "2 1 2 0 0 0", "3 1 2 0 1 0", DONE);
    }

    private static void deletesInFourChoices() {
        Check.says("Pass 1 (delete): for k = 4, then 2, then 1: i := 0; while i+k <= n", "n = 4");
        rests(exactly(0, 0, 0, 1), "1 2 0 0 0 0", "1 2 1 0 0 0", "1 2 2 0 0 0",
            "1 1 0 0 0 0", "1 1 1 0 0 0", "1 1 2 0 0 0", "1 1 3 0 0 0",
            "2 4 0 0 0 0", "2 2 2 0 0 0", "2 1 3 0 0 0", "3 1 3 0 1 0", DONE);
    }

    private static void deletesInFiveChoices() {
        Check.says("Pass 1 (delete): for k = 4, then 2, then 1: i := 0; while i+k <= n", "n = 5");
        rests(exactly(0, 0, 0, 0, 1), "1 4 1 0 0 0",
            "1 2 0 0 0 0", "1 2 1 0 0 0", "1 2 2 0 0 0", "1 2 3 0 0 0",
            "1 1 0 0 0 0", "1 1 1 0 0 0", "1 1 2 0 0 0", "1 1 3 0 0 0", "1 1 4 0 0 0",
            "2 4 1 0 0 0", "2 2 3 0 0 0", "2 1 4 0 0 0", "3 1 4 0 1 0", DONE);
    }

    private static void deletesAgainAtTheSamePlace() {
        Check.says("TRIAL(S with positions i..i+k-1 removed); if accepted, improved := 1 (i unchanged), else i := i+1");
        ChoiceShrink x = Make.found(16, INT_THEN_LIST, Make.doesNotBeginWith(6), 6, 1, 5, 1, 7, 1, 8, 1, 9, 0);
        rests(x, "1 4 1 0 0 0");
        isAt(x, "[6, 1, 5, 1, 7, 1, 8, 1, 9, 0]", "[6, 4, 5, 7, 8, 9]", 1, 0);
        rests(x, "1 4 1 0 0 1");
        isAt(x, "[6, 1, 8, 1, 9, 0]", "[6, 2, 8, 9]", 2, 1);
        // Once more at 1; then nothing is left to delete, and the round goes on with improved = 1 to its end.
        rests(x, "1 2 0 0 0 1");
        isAt(x, "[6, 0]", "[6, 0]", 3, 2);
        rests(x, "1 1 0 0 0 1", "1 1 1 0 0 1", "2 2 0 0 0 1", "2 1 0 0 0 1", "3 1 0 0 6 1", "3 1 0 4 6 1",
            "4 1 0 0 0 1", "1 2 0 0 0 0");
        isAt(x, "[6, 0]", "[6, 0]", 11, 2);
    }

    private static void deletesWithoutMakingUpForIt() {
        Check.says("TRIAL(S with positions i..i+k-1 removed)", "what stood behind S before does not come back");
        ChoiceShrink x = Make.found(8, LIST_THEN_INT, Make.NEVER, 1, 5, 0, 9);
        rests(x, "1 2 0 0 0 0", "1 2 0 0 0 1");
        isAt(x, "[0, 9]", "[0, 9]", 2, 1);
        // 0 alone lacks the int: the 0 that stood behind 0, 9 at first would give a lesser sequence.
        rests(x, "1 1 0 0 0 1", "1 1 1 0 0 1", "2 2 0 0 0 1");
        isAt(x, "[0, 9]", "[0, 9]", 5, 1);
        rests(x, "1 2 0 0 0 0");
        isAt(x, "[0, 0]", "[0, 0]", 6, 2);
    }

    // Pass 2

    private static void zeroesNoBlockOfZeros() {
        Check.says("Pass 2 (zero): for k = 4, then 2, then 1: i := 0; while i+k <= n: if S[i..i+k-1] are all 0, no "
            + "trial");
        restsBehindPass1(exactly(0, 0, 0, 0, 0), 11, DONE);
        restsBehindPass1(exactly(0), 1, DONE);
        // Just outside: a last choice that is not 0.
        restsBehindPass1(exactly(0, 0, 0, 0, 2), 11, "2 4 1 0 0 0", "2 2 3 0 0 0", "2 1 4 0 0 0", "3 1 4 0 2 0", DONE);
    }

    private static void zeroesBlocksThatBeginOtherwise() {
        Check.says("if S[i..i+k-1] are all 0, no trial; else TRIAL(S with S[i..i+k-1] set to 0)", "the first is not 0");
        restsBehindPass1(exactly(1, 0, 0, 0, 0), 11, "2 4 0 0 0 0", "2 2 0 0 0 0", "2 1 0 0 0 0", "3 1 0 0 1 0",
            "4 1 0 0 0 0", DONE);
    }

    private static void zeroesBlocksThatHoldOneInside() {
        Check.says("if S[i..i+k-1] are all 0, no trial; else TRIAL(S with S[i..i+k-1] set to 0)",
            "an inner one is not");
        restsBehindPass1(exactly(0, 0, 1, 0, 0), 11, "2 4 0 0 0 0", "2 4 1 0 0 0", "2 2 1 0 0 0", "2 2 2 0 0 0",
            "2 1 2 0 0 0", "3 1 2 0 1 0", "4 1 2 0 0 0", DONE);
    }

    private static void zeroesAndGoesOn() {
        Check.says("and if accepted improved := 1; then i := i+1");
        int[][] lastIsNot9 = Make.program(PUSH, 3, VAL, 0, PUSH, 9, EQ, 0, NOT, 0);
        ChoiceShrink x = Make.found(8, Make.ints(4, 255), lastIsNot9, 5, 6, 7, 9);
        restsBehindPass1(x, 8, "2 4 0 0 0 0", "2 2 0 0 0 0");
        isAt(x, "[5, 6, 7, 9]", "[5, 6, 7, 9]", 9, 0);
        rests(x, "2 2 1 0 0 1");
        isAt(x, "[0, 0, 7, 9]", "[0, 0, 7, 9]", 10, 1);
        rests(x, "2 2 2 0 0 1");
        isAt(x, "[0, 0, 0, 9]", "[0, 0, 0, 9]", 11, 2);
        rests(x, "2 1 3 0 0 1", "3 1 3 0 9 1", "3 1 3 5 9 1", "3 1 3 8 9 1", "1 4 0 0 0 0");
        isAt(x, "[0, 0, 0, 9]", "[0, 0, 0, 9]", 16, 2);
        Check.due("shrink(64)", 14, x.shrink(64));
        isAt(x, "[0, 0, 0, 9]", "[0, 0, 0, 9]", 30, 2);
    }

    private static void zeroesAndShortens() {
        Check.says("Below, n always denotes len(S) at the moment, so loop conditions see the current S.", "pass 2");
        ChoiceShrink x = Make.found(8, LIST_OF_TWO, Make.NEVER, 1, 5, 6, 0);
        restsBehindPass1(x, 8, "2 4 0 0 0 0");
        isAt(x, "[1, 5, 6, 0]", "[1, 5, 6]", 8, 0);
        rests(x, "1 1 0 0 0 0");
        isAt(x, "[0]", "[0]", 9, 1);
        rests(x, DONE);
        isAt(x, "[0]", "[0]", 10, 1);
    }

    // Pass 3

    private static void lowersNoZero() {
        Check.says("Pass 3 (lower): i := 0; while i < n: if S[i] > 0", "a 0 is passed over");
        restsBehindPass1(exactly(0, 0, 0), 5, DONE);
        restsBehindPass1(exactly(0, 2, 0), 5, "2 2 0 0 0 0", "2 2 1 0 0 0", "2 1 1 0 0 0", "3 1 1 0 2 0",
            "4 1 1 0 0 0", DONE);
    }

    private static void lowersOneInOneTrial() {
        Check.says("lo := 0; hi := S[i]; while lo < hi and i < n: mid := (lo+hi)/2", "S[i] = 1");
        restsBehindPass1(exactly(1, 1), 3, "2 2 0 0 0 0", "2 1 0 0 0 0", "2 1 1 0 0 0", "3 1 0 0 1 0", "3 1 1 0 1 0",
            DONE);
    }

    private static void lowersTwoInOneTrial() {
        Check.says("else lo := mid+1. Then i := i+1.", "S[i] = 2: 1 is tried, and no more is left");
        restsBehindPass1(exactly(2), 1, "2 1 0 0 0 0", "3 1 0 0 2 0", DONE);
        restsBehindPass1(exactly(3), 1, "2 1 0 0 0 0", "3 1 0 0 3 0", "3 1 0 2 3 0", DONE);
        restsBehindPass1(exactly(4), 1, "2 1 0 0 0 0", "3 1 0 0 4 0", "3 1 0 3 4 0", DONE);
    }

    private static void lowersTheGreatestUpwards() {
        Check.says("TRIAL(S with S[i] := mid); if accepted, improved := 1 and hi := mid, else lo := mid+1",
            "no trial is accepted from 255");
        ChoiceShrink x = exactly(255);
        restsBehindPass1(x, 1, "2 1 0 0 0 0", "3 1 0 0 255 0", "3 1 0 128 255 0", "3 1 0 192 255 0",
            "3 1 0 224 255 0", "3 1 0 240 255 0", "3 1 0 248 255 0", "3 1 0 252 255 0", "3 1 0 254 255 0", DONE);
        isAt(x, "[255]", "[255]", 10, 0);
    }

    private static void lowersTheGreatestDownwards() {
        Check.says("TRIAL(S with S[i] := mid); if accepted, improved := 1 and hi := mid, else lo := mid+1",
            "all but the last are accepted from 255");
        ChoiceShrink x = Make.found(8, Make.ints(1, 255), Make.program(PUSH, 0, VAL, 0, NOT, 0), 255);
        restsBehindPass1(x, 1, "2 1 0 0 0 0", "3 1 0 0 255 0", "3 1 0 0 127 1", "3 1 0 0 63 1", "3 1 0 0 31 1",
            "3 1 0 0 15 1", "3 1 0 0 7 1", "3 1 0 0 3 1", "3 1 0 0 1 1", "1 1 0 0 0 0");
        isAt(x, "[1]", "[1]", 10, 7);
        rests(x, "2 1 0 0 0 0", "3 1 0 0 1 0", DONE);
        isAt(x, "[1]", "[1]", 13, 7);
    }

    /** Fails where the first cell is 3, or is 6 in a value of three cells. */
    private static void lowersAndShortens() {
        Check.says("Below, n always denotes len(S) at the moment, so loop conditions see the current S.", "pass 3");
        int[][] program = Make.program(PUSH, 0, VAL, 0, PUSH, 3, EQ, 0, PUSH, 0, VAL, 0, PUSH, 6, EQ, 0,
            LEN, 0, PUSH, 3, EQ, 0, MUL, 0, ADD, 0, NOT, 0);
        ChoiceShrink x = Make.found(8, INT_THEN_LIST, program, 6, 1, 9, 0);
        Check.due("shrink(13)", 13, x.shrink(13));
        rests(x, "3 1 0 0 6 1");
        isAt(x, "[6, 1, 0, 0]", "[6, 1, 0]", 14, 1);
        rests(x, "3 1 0 0 3 1", "3 1 0 2 3 1", "3 1 1 0 1 1");
        isAt(x, "[3, 1, 0, 0]", "[3, 1, 0]", 17, 2);
        // The lowered list choice ends the list, so only two choices are consumed.
        rests(x, "4 1 0 0 0 1");
        isAt(x, "[3, 0]", "[3, 0]", 18, 3);
        rests(x, "1 2 0 0 0 0");
        Check.due("shrink(64)", 8, x.shrink(64));
        isAt(x, "[3, 0]", "[3, 0]", 27, 3);
        Check.due("phase()", ChoiceShrink.PH_DONE, x.phase());
    }

    // Pass 4

    private static void sortsNoSingleChoice() {
        Check.says("Pass 4 (sort): i := 0; while i+1 < n", "n = 1");
        restsBehindPass1(exactly(2), 1, "2 1 0 0 0 0", "3 1 0 0 2 0", DONE);
    }

    private static void sortsNoEqualPair() {
        Check.says("if S[i] > S[i+1]", "an equal pair is passed over");
        restsBehindPass1(exactly(2, 2), 3, "2 2 0 0 0 0", "2 1 0 0 0 0", "2 1 1 0 0 0", "3 1 0 0 2 0", "3 1 1 0 2 0",
            DONE);
    }

    private static void sortsNoAscendingPair() {
        Check.says("if S[i] > S[i+1]", "an ascending pair is passed over");
        restsBehindPass1(exactly(1, 2), 3, "2 2 0 0 0 0", "2 1 0 0 0 0", "2 1 1 0 0 0", "3 1 0 0 1 0", "3 1 1 0 2 0",
            DONE);
    }

    private static void sortsADescendingPair() {
        Check.says("if S[i] > S[i+1]: TRIAL(S with S[i] and S[i+1] exchanged)", "refused");
        restsBehindPass1(exactly(2, 1), 3, "2 2 0 0 0 0", "2 1 0 0 0 0", "2 1 1 0 0 0", "3 1 0 0 2 0", "3 1 1 0 1 0",
            "4 1 0 0 0 0", DONE);
        // The last pair of three, behind one that is passed over.
        restsBehindPass1(exactly(0, 2, 1), 5, "2 2 0 0 0 0", "2 2 1 0 0 0", "2 1 1 0 0 0", "2 1 2 0 0 0",
            "3 1 1 0 2 0", "3 1 2 0 1 0", "4 1 1 0 0 0", DONE);
    }

    private static void sortsAndGoesOn() {
        Check.says("and if accepted improved := 1. Then i := i+1.");
        ChoiceShrink x = Make.found(8, Make.ints(3, 255), Make.sumIsNot(3, 6), 3, 2, 1);
        Check.due("shrink(13)", 13, x.shrink(13));
        rests(x, "4 1 0 0 0 0");
        isAt(x, "[3, 2, 1]", "[3, 2, 1]", 14, 0);
        rests(x, "4 1 1 0 0 1");
        isAt(x, "[2, 3, 1]", "[2, 3, 1]", 15, 1);
        rests(x, "1 2 0 0 0 0");
        isAt(x, "[2, 1, 3]", "[2, 1, 3]", 16, 2);
        // Round two has 15 trials, round three 14.
        Check.due("shrink(64)", 29, x.shrink(64));
        isAt(x, "[1, 2, 3]", "[1, 2, 3]", 45, 3);
        Check.due("phase()", ChoiceShrink.PH_DONE, x.phase());
    }

    /** Fails at three cells, or at two of which the second is 1. */
    private static void sortsAndShortens() {
        Check.says("Below, n always denotes len(S) at the moment, so loop conditions see the current S.", "pass 4");
        int[][] program = Make.program(LEN, 0, PUSH, 3, EQ, 0, LEN, 0, PUSH, 2, EQ, 0, PUSH, 1, VAL, 0, PUSH, 1, EQ, 0,
            MUL, 0, ADD, 0, NOT, 0);
        ChoiceShrink x = Make.found(8, LIST_THEN_INT, program, 1, 0, 0, 0);
        Check.due("shrink(11)", 11, x.shrink(11));
        rests(x, "4 1 0 0 0 0");
        isAt(x, "[1, 0, 0, 0]", "[1, 0, 0]", 12, 0);
        rests(x, "1 2 0 0 0 0");
        isAt(x, "[0, 1]", "[0, 1]", 13, 1);
        rests(x, "1 1 0 0 0 0", "1 1 1 0 0 0", "2 2 0 0 0 0", "2 1 1 0 0 0", "3 1 1 0 1 0", DONE);
    }

    // Rounds

    private static void goesThroughThePassesInOrder() {
        Check.says("Shrink procedure (from NOT STARTED; each round does the following in this order): improved := 0.");
        for (int seed = 0; seed < 50; seed++) {
            ChoiceShrink x = Make.tester(seed, 32, LIST_OF_TWO, Make.program(LEN, 0, PUSH, 6, LT, 0));
            x.run(16);
            Check.due("rounds with seed " + seed, 2, rounds(x));
        }
        // Each round carries one choice more to its place, and the last one finds nothing to do.
        Check.due("rounds of 2, 1", 2, rounds(descending(2)));
        Check.due("rounds of 3, 2, 1", 3, rounds(descending(3)));
        Check.due("rounds of 4, 3, 2, 1", 4, rounds(descending(4)));
        Check.due("rounds of 6, 5, 4, 3, 2, 1", 6, rounds(descending(6)));
    }

    /** Found with count, count - 1, and so on down to 1, and failing where the sum is theirs. */
    private static ChoiceShrink descending(int count) {
        int[] choices = new int[count];
        for (int at = 0; at < count; at++) {
            choices[at] = count - at;
        }
        return Make.found(8, Make.ints(count, 255), Make.sumIsNot(count, count * (count + 1) / 2), choices);
    }

    /** Follows the cursor to the end: it comes back from a later pass only to begin a round that has not improved. */
    private static int rounds(ChoiceShrink x) {
        int rounds = 0;
        int pass = 1;
        int improved = 0;
        for (int call = 0; call < 2000 && x.phase() == ChoiceShrink.PH_FOUND; call++) {
            int accepted = x.stat(1);
            x.shrink(1);
            improved = x.stat(1) > accepted ? 1 : improved;
            if (x.cursor(0) < pass) {
                Check.due("pass behind a round's end", improved, x.cursor(0));
                improved = 0;
                rounds++;
            }
            pass = x.cursor(0);
            Check.due("cursor(5)", improved, x.cursor(5));
        }
        return rounds;
    }

    private static void beginsANewRound() {
        Check.says("End of round: if improved = 1 begin a new round");
        // Improved by the first trial of a round, and by the last one.
        ChoiceShrink first = Make.found(8, Make.LIST_OF_INT, Make.NEVER, 1, 5, 1, 6, 0);
        rests(first, "1 1 0 0 0 1", "1 1 0 0 0 0", DONE);
        isAt(first, "[0]", "[0]", 3, 1);
        ChoiceShrink last = Moment.sevenThree(11);
        rests(last, "1 2 0 0 0 0");
        Check.due("phase()", ChoiceShrink.PH_FOUND, last.phase());
        Check.due("shrink(64)", 11, last.shrink(64));
        Check.due("phase()", ChoiceShrink.PH_DONE, last.phase());
    }

    private static void endsWithoutOne() {
        Check.says("else phase := PH_DONE (cursor cleared)");
        ChoiceShrink x = Make.found(8, Make.LIST_OF_INT, Make.NEVER, 0);
        rests(x, DONE);
        isAt(x, "[0]", "[0]", 1, 0);
        Check.due("phase()", ChoiceShrink.PH_DONE, x.phase());
        ChoiceShrink two = exactly(2, 1);
        Check.due("shrink(64)", 9, two.shrink(64));
        Check.due("phase()", ChoiceShrink.PH_DONE, two.phase());
        isAt(two, "[2, 1]", "[2, 1]", 9, 0);
    }

    private static void readsZeroWhereNoTrialIsPending() {
        Check.says("NOT STARTED, PH_IDLE and PH_DONE read all 0.");
        ChoiceShrink x = Make.fed(4, Make.ints(2, 255), Make.sumIsNot(2, 10), 7, 3);
        Check.due("cursor in PH_IDLE", "[0, 0, 0, 0, 0, 0]", State.cursor(x).toString());
        x.replay();
        Check.due("cursor when NOT STARTED", "[0, 0, 0, 0, 0, 0]", State.cursor(x).toString());
        x.shrink(64);
        Check.due("cursor in PH_DONE", "[0, 0, 0, 0, 0, 0]", State.cursor(x).toString());
        x.discard();
        Check.due("cursor in PH_IDLE again", "[0, 0, 0, 0, 0, 0]", State.cursor(x).toString());
        ChoiceShrink resting = Moment.lowering();
        Check.due("cursor before discard", "[3, 1, 1, 26, 50, 1]", State.cursor(resting).toString());
        resting.discard();
        Check.due("cursor after discard", "[0, 0, 0, 0, 0, 0]", State.cursor(resting).toString());
    }

    private static void neverGrows() {
        Check.says("Since S only ever changes to a shortlex-smaller sequence, S is never shortlex-greater than O.");
        for (int seed = 0; seed < 50; seed++) {
            ChoiceShrink x = Make.tester(seed, 32, LIST_OF_TWO, Make.program(LEN, 0, PUSH, 6, LT, 0));
            x.run(16);
            String s = shortlex(x);
            for (int call = 0; call < 2000 && x.phase() == ChoiceShrink.PH_FOUND; call++) {
                int accepted = x.stat(1);
                x.shrink(1);
                String after = shortlex(x);
                int due = x.stat(1) - accepted;
                Check.due("S became less, with seed " + seed, due, after.compareTo(s) < 0 ? 1 : 0);
                Check.due("S changed, with seed " + seed, due, after.equals(s) ? 0 : 1);
                s = after;
            }
        }
    }

    /** A text that sorts as shortlex does. */
    private static String shortlex(ChoiceShrink x) {
        StringBuilder text = new StringBuilder().append((char) x.seqLength());
        for (int choice : State.sequence(x)) {
            text.append((char) choice);
        }
        return text.toString();
    }

    /** Found with these cells, and failing at them alone: no trial is accepted. */
    private static ChoiceShrink exactly(int... cells) {
        return Make.found(8, Make.ints(cells.length, 255), Make.doesNotBeginWith(cells), cells);
    }

    /** Where it rests after each one of the next trials: pass, k, i, lo, hi and improved. */
    private static void rests(ChoiceShrink x, String... cursors) {
        for (String cursor : cursors) {
            int phase = cursor.equals(DONE) ? ChoiceShrink.PH_DONE : ChoiceShrink.PH_FOUND;
            int trials = x.stat(0) + 1;
            Check.due("shrink(1)", 1, x.shrink(1));
            Check.due("stat(0)", trials, x.stat(0));
            Check.due("cursor after " + trials + " trials", cursor,
                State.cursor(x).toString().replaceAll("[\\[,\\]]", ""));
            Check.due("phase() after " + trials + " trials", phase, x.phase());
        }
    }

    /** Pass 1 takes this many trials, the last of which comes to rest at the first of these. */
    private static void restsBehindPass1(ChoiceShrink x, int trials, String... cursors) {
        if (trials > 1) {
            Check.due("shrink(" + (trials - 1) + ")", trials - 1, x.shrink(trials - 1));
        }
        rests(x, cursors);
    }

    private static void isAt(ChoiceShrink x, String s, String v, int trials, int accepted) {
        String after = " after " + trials + " trials";
        Check.due("S" + after, s, State.sequence(x).toString());
        Check.due("V" + after, v, State.value(x).toString());
        Check.due("stat(0)" + after, trials, x.stat(0));
        Check.due("stat(1)" + after, accepted, x.stat(1));
    }
}
