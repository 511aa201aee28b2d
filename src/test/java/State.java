import java.util.ArrayList;
import java.util.List;

/** Everything that can be read of an object, as one text, so that two moments can be compared whole. */
final class State {
    private State() {
    }

    static String of(ChoiceShrink x) {
        return text(x.phase(), sequence(x), original(x), value(x), stats(x), cursor(x));
    }

    static String text(int phase, List<Integer> s, List<Integer> o, List<Integer> v,
            List<Integer> stats, List<Integer> cursor) {
        return "phase " + phase + " S " + s + " O " + o + " V " + v + " stat " + stats + " cursor " + cursor;
    }

    static List<Integer> sequence(ChoiceShrink x) {
        List<Integer> list = new ArrayList<>();
        for (int i = 0; i < x.seqLength(); i++) {
            list.add(x.choiceAt(i));
        }
        return list;
    }

    static List<Integer> original(ChoiceShrink x) {
        List<Integer> list = new ArrayList<>();
        for (int i = 0; i < x.origLength(); i++) {
            list.add(x.origChoiceAt(i));
        }
        return list;
    }

    static List<Integer> value(ChoiceShrink x) {
        List<Integer> list = new ArrayList<>();
        for (int i = 0; i < x.valueLength(); i++) {
            list.add(x.valueAt(i));
        }
        return list;
    }

    static List<Integer> stats(ChoiceShrink x) {
        List<Integer> list = new ArrayList<>();
        for (int what = 0; what <= 7; what++) {
            list.add(x.stat(what));
        }
        return list;
    }

    static List<Integer> cursor(ChoiceShrink x) {
        List<Integer> list = new ArrayList<>();
        for (int what = 0; what <= 5; what++) {
            list.add(x.cursor(what));
        }
        return list;
    }
}
