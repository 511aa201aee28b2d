import java.util.function.Supplier;

/** What cannot be read now but shows later: what the buffer, the generator, the program and the cursor hold. */
final class Future {
    private Future() {
    }

    /** Whether they are used at once or get nodes and instructions first, the two go on alike. */
    static void same(String told, Supplier<ChoiceShrink> untouched, Supplier<ChoiceShrink> touched) {
        Check.due("what follows at once after " + told, usedAtOnce(untouched.get()), usedAtOnce(touched.get()));
        Check.due("what follows later after " + told, completed(untouched.get()), completed(touched.get()));
    }

    private static String usedAtOnce(ChoiceShrink x) {
        StringBuilder seen = new StringBuilder();
        seen.append(x.replay()).append(State.of(x));
        for (int call = 0; call < 4; call++) {
            seen.append(x.shrink(9)).append(State.of(x));
        }
        return seen + completed(x);
    }

    /** With a property that always fails the replay shows the buffer. */
    private static String completed(ChoiceShrink x) {
        StringBuilder seen = new StringBuilder();
        for (int node = 0; node < 17; node++) {
            seen.append(x.addGen(ChoiceShrink.G_INT, 255));
        }
        seen.append(x.addOp(ChoiceShrink.OP_PUSH, 0)).append(x.replay()).append(State.of(x));
        seen.append(x.shrink(3)).append(State.of(x));
        x.discard();
        seen.append(x.addOp(ChoiceShrink.OP_PUSH, 0)).append(x.pushChoice(5)).append(x.run(9)).append(State.of(x));
        return seen.toString();
    }
}
