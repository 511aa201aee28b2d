import java.util.ArrayList;
import java.util.Arrays;
import java.util.Collections;
import java.util.List;
import java.util.function.IntUnaryOperator;

/**
 * The document's Terms and promises written down as they stand, with recursion and exceptions: what ModelTest holds
 * the class against. It resumes a shrink by doing the whole procedure anew from O up to the trial where it rests.
 */
final class Model {
    private static final class Invalid extends RuntimeException {
        private static final long serialVersionUID = 1L;
    }

    private static final class Crash extends RuntimeException {
        private static final long serialVersionUID = 1L;
    }

    private static final class Rest extends RuntimeException {
        private static final long serialVersionUID = 1L;
    }

    private final int cap;
    private int prng;
    private int phase = 0;
    private final List<int[]> nodes = new ArrayList<>();
    private int open = 1;
    private final List<int[]> program = new ArrayList<>();
    private final List<Integer> m = new ArrayList<>();
    private List<Integer> s = new ArrayList<>();
    private List<Integer> o = new ArrayList<>();
    private List<Integer> v = new ArrayList<>();
    private int trials = 0;
    private int accepted = 0;
    private int cases = 0;
    private Integer[] cursor = {0, 0, 0, 0, 0, 0};
    private boolean started = false;

    private int restAfter = 0;
    private boolean improved = false;

    /** How many trials each pass had accepted, over the object's life: tells ModelTest what its runs reached. */
    final int[] acceptedIn = new int[5];

    Model(int seed, int cap) {
        this.prng = Math.max(0, Math.min(65535, seed));
        this.cap = Math.max(4, Math.min(32, cap));
    }

    private boolean complete() {
        return !nodes.isEmpty() && open == 0;
    }

    int addGen(int kind, int bound) {
        boolean badBound = kind == 1 && (bound < 0 || bound > 255);
        if (phase != 0 || kind < 1 || kind > 3 || badBound || complete() || nodes.size() == 16) {
            return -1;
        }
        nodes.add(new int[] {kind, bound});
        open = open - 1 + (kind == 2 ? 1 : kind == 3 ? 2 : 0);
        return nodes.size() - 1;
    }

    int addOp(int op, int arg) {
        boolean badTarget = (op == 13 || op == 14) && (arg < 0 || arg > 32);
        if (phase != 0 || op < 0 || op > 14 || badTarget || program.size() == 32) {
            return -1;
        }
        program.add(new int[] {op, arg});
        return program.size() - 1;
    }

    int pushChoice(int c) {
        if (c < 0 || c > 255 || m.size() == cap) {
            return -1;
        }
        m.add(c);
        return m.size();
    }

    int replay() {
        if (phase != 0 || !complete() || program.isEmpty()) {
            return -1;
        }
        Generation g = replayOf(m);
        int outcome = outcome(g);
        if (outcome == 1) {
            find(g);
        }
        return outcome;
    }

    int run(int count) {
        if (phase != 0 || !complete() || program.isEmpty()) {
            return -1;
        }
        for (int j = 1; j <= Math.max(1, Math.min(16, count)); j++) {
            cases++;
            Generation g = new Generation(cap, this::draw);
            g.start();
            if (outcome(g) == 1) {
                find(g);
                return j;
            }
        }
        return 0;
    }

    int shrink(int budget) {
        if (phase != 1) {
            return -1;
        }
        int before = trials;
        restAfter = before + Math.max(1, Math.min(64, budget));
        Arrays.fill(acceptedIn, 0);
        Generation g = replayOf(o);
        s = g.record;
        v = g.cells;
        trials = 0;
        accepted = 0;
        try {
            procedure();
            phase = 2;
            cursor = new Integer[] {0, 0, 0, 0, 0, 0};
        } catch (Rest rest) {
            started = true;
        }
        return trials - before;
    }

    void discard() {
        s = new ArrayList<>();
        o = new ArrayList<>();
        v = new ArrayList<>();
        m.clear();
        trials = 0;
        accepted = 0;
        cursor = new Integer[] {0, 0, 0, 0, 0, 0};
        started = false;
        phase = 0;
    }

    String state() {
        List<Integer> stats = List.of(trials, accepted, nodes.size(), program.size(), m.size(), cases,
            complete() ? 1 : 0, prng);
        return State.text(phase, s, o, v, stats, Arrays.asList(cursor));
    }

    int phase() {
        return phase;
    }

    boolean resting() {
        return started && phase == 1;
    }

    private void find(Generation g) {
        s = g.record;
        o = new ArrayList<>(g.record);
        v = g.cells;
        trials = 0;
        accepted = 0;
        phase = 1;
    }

    // Generation

    private final class Generation {
        private final int room;
        private final IntUnaryOperator source;
        private final List<Integer> record = new ArrayList<>();
        private final List<Integer> cells = new ArrayList<>();
        private boolean valid = true;

        Generation(int room, IntUnaryOperator source) {
            this.room = room;
            this.source = source;
        }

        void start() {
            try {
                gen(0);
            } catch (Invalid invalid) {
                valid = false;
            }
        }

        /** Answers the node behind the generated one. */
        private int gen(int node) {
            int kind = nodes.get(node)[0];
            if (kind == 1) {
                int bound = nodes.get(node)[1];
                emit(take(bound + 1) % (bound + 1));
                return node + 1;
            }
            if (kind == 3) {
                return gen(gen(node + 1));
            }
            emit(0);
            int q = cells.size() - 1;
            int count = 0;
            while (count < 8 && take(4) != 0) {
                gen(node + 1);
                count++;
            }
            cells.set(q, count);
            return behind(node);
        }

        private int take(int width) {
            if (record.size() == room) {
                throw new Invalid();
            }
            record.add(source.applyAsInt(width));
            return record.get(record.size() - 1);
        }

        private void emit(int cell) {
            if (cells.size() == 32) {
                throw new Invalid();
            }
            cells.add(cell);
        }
    }

    private int behind(int node) {
        int kind = nodes.get(node)[0];
        if (kind == 1) {
            return node + 1;
        }
        return kind == 2 ? behind(node + 1) : behind(behind(node + 1));
    }

    private int draw(int width) {
        prng = prng * 1103515245 + 12345;
        return (prng >>> 16 & 255) % width;
    }

    private Generation replayOf(List<Integer> c) {
        int[] next = {0};
        Generation g = new Generation(c.size(), width -> c.get(next[0]++));
        g.start();
        return g;
    }

    // The property

    private int outcome(Generation g) {
        if (!g.valid) {
            return 2;
        }
        try {
            return holds(g.cells) ? 0 : 1;
        } catch (Crash crash) {
            return 1;
        }
    }

    private boolean holds(List<Integer> value) {
        List<Integer> stack = new ArrayList<>();
        int pc = 0;
        int steps = 0;
        while (pc < program.size()) {
            if (steps == 256) {
                return false;
            }
            steps++;
            int op = program.get(pc)[0];
            int arg = program.get(pc)[1];
            if (op == 14 || op == 13 && pop(stack) == 0) {
                pc = arg;
                continue;
            }
            if (op != 13) {
                execute(op, arg, stack, value);
            }
            pc++;
        }
        return !stack.isEmpty() && stack.get(stack.size() - 1) != 0;
    }

    private static void execute(int op, int arg, List<Integer> stack, List<Integer> value) {
        if (op == 0) {
            push(stack, arg);
        } else if (op == 1) {
            int i = pop(stack);
            push(stack, i >= 0 && i < value.size() ? value.get(i) : 0);
        } else if (op == 2) {
            push(stack, value.size());
        } else if (op == 8) {
            push(stack, pop(stack) == 0 ? 1 : 0);
        } else if (op == 9) {
            push(stack, top(stack, 1));
        } else if (op == 10) {
            top(stack, 2);
            Collections.swap(stack, stack.size() - 1, stack.size() - 2);
        } else if (op == 11) {
            pop(stack);
        } else if (op == 12) {
            push(stack, top(stack, 2));
        } else {
            int b = pop(stack);
            int a = pop(stack);
            push(stack, op == 3 ? a + b : op == 4 ? a - b : op == 5 ? a * b : (op == 6 ? a < b : a == b) ? 1 : 0);
        }
    }

    private static int pop(List<Integer> stack) {
        if (stack.isEmpty()) {
            throw new Crash();
        }
        return stack.remove(stack.size() - 1);
    }

    private static void push(List<Integer> stack, int cell) {
        if (stack.size() == 16) {
            throw new Crash();
        }
        stack.add(cell);
    }

    private static int top(List<Integer> stack, int down) {
        if (stack.size() < down) {
            throw new Crash();
        }
        return stack.get(stack.size() - down);
    }

    // The shrink procedure

    private void procedure() {
        do {
            improved = false;
            deletePass();
            zeroPass();
            lowerPass();
            sortPass();
        } while (improved);
    }

    private void deletePass() {
        for (int k = 4; k >= 1; k /= 2) {
            int i = 0;
            while (i + k <= s.size()) {
                List<Integer> c = new ArrayList<>(s);
                c.subList(i, i + k).clear();
                if (!trial(c, 1, k, i, 0, 0)) {
                    i++;
                }
            }
        }
    }

    private void zeroPass() {
        for (int k = 4; k >= 1; k /= 2) {
            for (int i = 0; i + k <= s.size(); i++) {
                List<Integer> c = new ArrayList<>(s);
                Collections.fill(c.subList(i, i + k), 0);
                if (!c.equals(s)) {
                    trial(c, 2, k, i, 0, 0);
                }
            }
        }
    }

    private void lowerPass() {
        for (int i = 0; i < s.size(); i++) {
            int lo = 0;
            int hi = s.get(i);
            while (lo < hi && i < s.size()) {
                int mid = (lo + hi) / 2;
                List<Integer> c = new ArrayList<>(s);
                c.set(i, mid);
                if (trial(c, 3, 1, i, lo, hi)) {
                    hi = mid;
                } else {
                    lo = mid + 1;
                }
            }
        }
    }

    private void sortPass() {
        for (int i = 0; i + 1 < s.size(); i++) {
            if (s.get(i) > s.get(i + 1)) {
                List<Integer> c = new ArrayList<>(s);
                Collections.swap(c, i, i + 1);
                trial(c, 4, 1, i, 0, 0);
            }
        }
    }

    private boolean trial(List<Integer> c, int pass, int k, int i, int lo, int hi) {
        if (trials == restAfter) {
            cursor = new Integer[] {pass, k, i, lo, hi, improved ? 1 : 0};
            throw new Rest();
        }
        trials++;
        Generation g = replayOf(c);
        if (outcome(g) != 1 || !shortlexLess(g.record, s)) {
            return false;
        }
        s = g.record;
        v = g.cells;
        accepted++;
        acceptedIn[pass]++;
        improved = true;
        return true;
    }

    private static boolean shortlexLess(List<Integer> a, List<Integer> b) {
        if (a.size() != b.size()) {
            return a.size() < b.size();
        }
        for (int j = 0; j < a.size(); j++) {
            if (!a.get(j).equals(b.get(j))) {
                return a.get(j) < b.get(j);
            }
        }
        return false;
    }
}
