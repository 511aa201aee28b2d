import java.util.function.Supplier;
import java.util.function.ToIntFunction;

/** A refused call answers -1 and changes nothing: neither what can be read now nor what would only show later. */
final class Refused {
    private Refused() {
    }

    static void due(String call, Supplier<ChoiceShrink> made, ToIntFunction<ChoiceShrink> asked) {
        ChoiceShrink x = made.get();
        String before = State.everywhere(x);
        Check.due(call, -1, asked.applyAsInt(x));
        Check.due("all after " + call, before, State.everywhere(x));
        Check.due(call + " once more", -1, asked.applyAsInt(x));
        String untouched = future(made.get());
        Check.due("all that follows after " + call, untouched, future(x));
    }

    /** What the buffer, the generator, the program, the random state and the cursor hold shows in these calls. */
    static String future(ChoiceShrink x) {
        StringBuilder told = new StringBuilder();
        told.append(x.replay()).append(State.of(x));
        for (int call = 0; call < 4; call++) {
            told.append(x.shrink(9)).append(State.of(x));
        }
        for (int node = 0; node < 17; node++) {
            told.append(x.addGen(ChoiceShrink.G_INT, 255));
        }
        told.append(x.addOp(ChoiceShrink.OP_PUSH, 0)).append(x.pushChoice(5)).append(x.replay()).append(State.of(x));
        x.discard();
        told.append(x.addGen(ChoiceShrink.G_INT, 255)).append(x.addOp(ChoiceShrink.OP_PUSH, 0)).append(x.pushChoice(5));
        told.append(x.run(9)).append(State.of(x));
        return told.toString();
    }
}
