/** Promise 1: Construction. */
public final class ConstructionTest {
    public static void main(String[] args) {
        seedIsClamped();
        seedIsTheInitialState();
        capIsClamped();
        capBoundsTheDrawsFromBelow();
        capBoundsTheDrawsFromAbove();
        capStaysFixed();
        everythingIsEmpty();
        generatorIsNotComplete();
        Check.end("ConstructionTest");
    }

    private static void seedIsClamped() {
        Check.says("ChoiceShrink(int seed, int cap): seed is clamped into 0..65535 (below 0 becomes 0, above 65535 "
            + "becomes 65535)");
        seedGives(Make.LEAST, 0);
        seedGives(-65536, 0);
        seedGives(-1, 0);
        seedGives(0, 0);
        seedGives(1, 1);
        seedGives(40000, 40000);
        seedGives(65534, 65534);
        seedGives(65535, 65535);
        seedGives(65536, 65535);
        seedGives(65537, 65535);
        seedGives(Make.GREATEST, 65535);
    }

    private static void seedGives(int seed, int state) {
        Check.due("seed " + seed + ": stat(7)", state, new ChoiceShrink(seed, 8).stat(7));
    }

    private static void seedIsTheInitialState() {
        Check.says("and is the initial PRNG state");
        // The last one is 65535 * 1103515245 + 12345, less 16838 times 2^32.
        firstDrawGives(Make.LEAST, 12345);
        firstDrawGives(-1, 12345);
        firstDrawGives(0, 12345);
        firstDrawGives(1, 1103527590);
        firstDrawGives(65535, 212263372);
        firstDrawGives(65536, 212263372);
        firstDrawGives(Make.GREATEST, 212263372);
    }

    private static void firstDrawGives(int seed, int state) {
        ChoiceShrink x = Make.tester(seed, 8, Make.ints(1, 255), Make.ALWAYS);
        x.run(1);
        Check.due("seed " + seed + ": stat(7) after one draw", state, x.stat(7));
    }

    private static void capIsClamped() {
        Check.says("cap is clamped into 4..32 likewise");
        capGives(Make.LEAST, 4);
        capGives(-1, 4);
        capGives(0, 4);
        capGives(3, 4);
        capGives(4, 4);
        capGives(5, 5);
        capGives(16, 16);
        capGives(31, 31);
        capGives(32, 32);
        capGives(33, 32);
        capGives(Make.GREATEST, 32);
    }

    private static void capGives(int cap, int room) {
        fills(new ChoiceShrink(1, cap), "cap " + cap, room);
    }

    private static void fills(ChoiceShrink x, String told, int room) {
        for (int length = 1; length <= room; length++) {
            Check.due(told + ": pushChoice", length, x.pushChoice(length));
        }
        Check.due(told + ": pushChoice when full", -1, x.pushChoice(0));
        Check.due(told + ": stat(4) when full", room, x.stat(4));
    }

    private static void capBoundsTheDrawsFromBelow() {
        Check.says("cap is clamped into 4..32 likewise", "a cap below 4 still lets four choices be drawn");
        for (int cap : new int[] {Make.LEAST, -1, 0, 3, 4}) {
            Check.due("cap " + cap + ": run with 4 ints", 1,
                Make.tester(1, cap, Make.ints(4, 255), Make.NEVER).run(16));
            Check.due("cap " + cap + ": run with 5 ints", 0,
                Make.tester(1, cap, Make.ints(5, 255), Make.NEVER).run(16));
        }
        Check.due("cap 5: run with 5 ints", 1, Make.tester(1, 5, Make.ints(5, 255), Make.NEVER).run(16));
    }

    private static void capBoundsTheDrawsFromAbove() {
        Check.says("cap is clamped into 4..32 likewise", "a cap above 32 lets no more than 32 choices be drawn");
        for (int cap : new int[] {32, 33, Make.GREATEST}) {
            Check.due("cap " + cap + ": longest record", 32, longestRecord(cap));
        }
        Check.due("cap 31: longest record", 0, longestRecord(31));
    }

    /** The length of the first record with eight elements in 800 cases, or 0. */
    private static int longestRecord(int cap) {
        ChoiceShrink x = Make.tester(1, cap, Make.LIST_OF_THREE, Make.lengthIsNot(25));
        for (int call = 0; call < 50 && x.phase() == ChoiceShrink.PH_IDLE; call++) {
            x.run(16);
        }
        return x.seqLength();
    }

    private static void capStaysFixed() {
        Check.says("and stays fixed for the life of the object");
        ChoiceShrink x = Make.tester(1, 5, Make.ints(2, 255), Make.sumIsNot(2, 10));
        fills(x, "before", 5);
        x.discard();
        fills(x, "after discard", 5);
        x.run(16);
        x.replay();
        x.discard();
        Make.feed(x, 7, 3);
        Check.due("replay()", ChoiceShrink.R_FAILS, x.replay());
        x.shrink(64);
        x.discard();
        fills(x, "after a shrink", 5);
    }

    private static void everythingIsEmpty() {
        Check.says("At the start: phase is PH_IDLE; the generator, program, M, S, O and V are empty; trials = accepted "
            + "= cases = 0; the cursor reads all 0.");
        ChoiceShrink x = new ChoiceShrink(9, 9);
        Check.due("all of a new object",
            "phase 0 S [] O [] V [] stat [0, 0, 0, 0, 0, 0, 0, 9] cursor [0, 0, 0, 0, 0, 0]", State.of(x));
        Check.due("choiceAt(0)", -1, x.choiceAt(0));
        Check.due("origChoiceAt(0)", -1, x.origChoiceAt(0));
        Check.due("valueAt(0)", -1, x.valueAt(0));
        Check.due("addGen", 0, x.addGen(ChoiceShrink.G_INT, 255));
        Check.due("addOp", 0, x.addOp(ChoiceShrink.OP_PUSH, 0));
        Check.due("replay() of the empty buffer", ChoiceShrink.R_INVALID, x.replay());
        Check.due("pushChoice", 1, x.pushChoice(3));
        Check.due("shrink(1)", -1, x.shrink(1));
    }

    private static void generatorIsNotComplete() {
        Check.says("The generator is not complete.");
        ChoiceShrink x = Make.fed(8, Make.NOTHING, Make.NEVER, 1, 2, 3);
        Check.due("stat(6)", 0, x.stat(6));
        Check.due("replay() without a generator", -1, x.replay());
        Check.due("run(1) without a generator", -1, x.run(1));
    }
}
