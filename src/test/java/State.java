import java.util.ArrayList;
import java.util.List;
import java.util.function.IntUnaryOperator;

/** Everything that can be read of an object, as one text, so that two moments can be compared whole. */
final class State {
    private State() {
    }

    static String of(ChoiceShrink x) {
        return text(x.phase(), sequence(x), original(x), value(x), stats(x), cursor(x));
    }

    static String text(int phase, List<Integer> s, List<Integer> o, List<Integer> v,
            List<Integer> stats, List<Integer> cursor) {
        return "phase " + phase + " S " + s + " O " + o + " V " + v + " stat " + stats + " cursor " + cursor;
    }

    /** The same, with what the readers answer outside of their bounds. */
    static String everywhere(ChoiceShrink x) {
        return of(x) + " choiceAt " + wide(x::choiceAt) + " origChoiceAt " + wide(x::origChoiceAt)
            + " valueAt " + wide(x::valueAt) + " stat " + wide(x::stat) + " cursor " + wide(x::cursor);
    }

    static List<Integer> sequence(ChoiceShrink x) {
        return range(x::choiceAt, 0, x.seqLength());
    }

    static List<Integer> original(ChoiceShrink x) {
        return range(x::origChoiceAt, 0, x.origLength());
    }

    static List<Integer> value(ChoiceShrink x) {
        return range(x::valueAt, 0, x.valueLength());
    }

    static List<Integer> stats(ChoiceShrink x) {
        return range(x::stat, 0, 8);
    }

    static List<Integer> cursor(ChoiceShrink x) {
        return range(x::cursor, 0, 6);
    }

    private static List<Integer> wide(IntUnaryOperator reader) {
        List<Integer> list = range(reader, -2, 35);
        list.add(reader.applyAsInt(Integer.MIN_VALUE));
        list.add(reader.applyAsInt(Integer.MAX_VALUE));
        return list;
    }

    private static List<Integer> range(IntUnaryOperator reader, int from, int to) {
        List<Integer> list = new ArrayList<>();
        for (int i = from; i < to; i++) {
            list.add(reader.applyAsInt(i));
        }
        return list;
    }
}
