import java.util.function.Supplier;
import java.util.function.ToIntFunction;

/** A refused call answers -1 and changes nothing: neither what can be read now nor what would only show later. */
final class Refused {
    private Refused() {
    }

    static void due(String call, Supplier<ChoiceShrink> made, ToIntFunction<ChoiceShrink> asked) {
        ChoiceShrink x = made.get();
        String before = State.everywhere(x);
        Check.due(call, -1, asked.applyAsInt(x));
        Check.due("all after " + call, before, State.everywhere(x));
        Check.due(call + " once more", -1, asked.applyAsInt(x));
        Future.same(call, made, () -> {
            ChoiceShrink refused = made.get();
            asked.applyAsInt(refused);
            return refused;
        });
    }
}
