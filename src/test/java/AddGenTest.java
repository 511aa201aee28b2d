import java.util.function.Supplier;

/** Promise 2: addGen, with the Terms of the generator. */
public final class AddGenTest {
    private static final int INT = ChoiceShrink.G_INT;
    private static final int LIST = ChoiceShrink.G_LIST;
    private static final int PAIR = ChoiceShrink.G_PAIR;

    public static void main(String[] args) {
        refusesOutsideIdle();
        refusesWrongKinds();
        refusesWrongBounds();
        refusesWhenComplete();
        refusesASeventeenthNode();
        takesASixteenthNodeThatCompletes();
        ignoresTheBoundOfListsAndPairs();
        appendsInPrefixOrder();
        answersTheIndex();
        appendsOneNode();
        kindsHaveTheirChildren();
        countsWhatIsOpen();
        tellsWhenComplete();
        changesNothingElse();
        Check.end("AddGenTest");
    }

    private static void refusesOutsideIdle() {
        Check.says("each refusing with -1 and no change at all: phase is not PH_IDLE");
        Moment.found().values().forEach(AddGenTest::refusesEveryKind);
        Moment.done().values().forEach(AddGenTest::refusesEveryKind);
    }

    private static void refusesEveryKind(Supplier<ChoiceShrink> made) {
        for (int kind = INT; kind <= PAIR; kind++) {
            refuses(made, kind, 5);
        }
    }

    private static void refusesWrongKinds() {
        Check.says("kind not in 1..3");
        for (int kind : new int[] {Make.LEAST, -3, -1, 0, 4, 5, Make.GREATEST}) {
            for (int bound : new int[] {Make.LEAST, -1, 0, 5, 255, 256, Make.GREATEST}) {
                refuses(() -> new ChoiceShrink(1, 8), kind, bound);
                refuses(() -> Make.tester(1, 8, new int[][] {{PAIR, 0}, {INT, 5}}, Make.NEVER), kind, bound);
            }
        }
        for (int kind = 1; kind <= 3; kind++) {
            Check.due("addGen(" + kind + ", 5)", 0, new ChoiceShrink(1, 8).addGen(kind, 5));
        }
    }

    private static void refusesWrongBounds() {
        Check.says("kind is G_INT and bound not in 0..255");
        for (int bound : new int[] {Make.LEAST, -256, -255, -1, 256, 257, Make.GREATEST}) {
            refuses(() -> new ChoiceShrink(1, 8), INT, bound);
            refuses(() -> Make.tester(1, 8, new int[][] {{LIST, 0}}, Make.NEVER), INT, bound);
        }
        for (int bound : new int[] {0, 1, 128, 254, 255}) {
            ChoiceShrink x = new ChoiceShrink(1, 8);
            Check.due("addGen int " + bound, 0, x.addGen(INT, bound));
            Check.due("stat(6) with int " + bound, 1, x.stat(6));
        }
    }

    private static void refusesWhenComplete() {
        Check.says("generator complete");
        int[][][] complete = {
            {{INT, 0}}, {{INT, 255}}, Make.LIST_OF_INT, Make.ints(2, 9), Make.ints(8, 9),
            {{LIST, 0}, {PAIR, 0}, {INT, 1}, {LIST, 0}, {INT, 2}}};
        for (int[][] gen : complete) {
            for (int[][] program : new int[][][] {Make.NOTHING, Make.NEVER}) {
                refusesEveryKind(() -> Make.tester(1, 8, gen, program));
            }
        }
        // The last node that completes is still taken.
        Check.due("addGen behind a list", 1, Make.tester(1, 8, new int[][] {{LIST, 0}}, Make.NEVER).addGen(INT, 0));
        Check.due("addGen behind a pair and an int", 2,
            Make.tester(1, 8, new int[][] {{PAIR, 0}, {INT, 5}}, Make.NEVER).addGen(INT, 0));
    }

    private static void refusesASeventeenthNode() {
        Check.says("16 nodes present");
        for (int kind : new int[] {LIST, PAIR}) {
            ChoiceShrink x = new ChoiceShrink(1, 8);
            for (int index = 0; index < 16; index++) {
                Check.due("addGen(" + kind + ", 0)", index, x.addGen(kind, 0));
            }
            Check.due("stat(2)", 16, x.stat(2));
            Check.due("stat(6)", 0, x.stat(6));
            refusesEveryKind(() -> Make.tester(1, 8, Make.repeated(16, kind, 0), Make.NEVER));
        }
        for (int kind = INT; kind <= PAIR; kind++) {
            ChoiceShrink fifteen = Make.tester(1, 8, Make.repeated(15, PAIR, 0), Make.NEVER);
            Check.due("a sixteenth of kind " + kind, 15, fifteen.addGen(kind, 5));
        }
    }

    private static void takesASixteenthNodeThatCompletes() {
        Check.says("Generator. A list of at most 16 nodes in prefix order.");
        ChoiceShrink x = new ChoiceShrink(1, 32);
        for (int index = 0; index < 15; index++) {
            Check.due("addGen list", index, x.addGen(LIST, 0));
            Check.due("stat(6)", 0, x.stat(6));
        }
        Check.due("addGen int", 15, x.addGen(INT, 9));
        Check.due("stat(6)", 1, x.stat(6));
        Check.due("a seventeenth", -1, x.addGen(INT, 5));
        x.addOp(ChoiceShrink.OP_PUSH, 0);
        Make.feed(x, 1, 1, 1, 1, 1, 1, 1, 1, 1, 1, 1, 1, 1, 1, 1, 27, 0, 0, 0, 0, 0, 0, 0, 0, 0, 0, 0, 0, 0, 0, 0);
        Check.due("replay of fifteen nested lists", ChoiceShrink.R_FAILS, x.replay());
        Check.due("value of fifteen nested lists",
            "[1, 1, 1, 1, 1, 1, 1, 1, 1, 1, 1, 1, 1, 1, 1, 7]", State.value(x).toString());
    }

    private static void ignoresTheBoundOfListsAndPairs() {
        Check.says("bound is ignored for G_LIST and G_PAIR.");
        for (int bound : new int[] {Make.LEAST, -1, 0, 255, 256, Make.GREATEST}) {
            int[][] gen = {{PAIR, bound}, {LIST, bound}, {INT, 255}, {INT, 255}};
            ChoiceShrink x = Make.fed(8, gen, Make.NEVER, 200, 77, 0, 99);
            Check.due("nodes with bound " + bound, 4, x.stat(2));
            Check.due("replay with bound " + bound, ChoiceShrink.R_FAILS, x.replay());
            Check.due("value with bound " + bound, "[1, 77, 99]", State.value(x).toString());
            ChoiceShrink drawn = Make.tester(5, 32, gen, Make.NEVER);
            ChoiceShrink plain = Make.tester(5, 32, new int[][] {{PAIR, 0}, {LIST, 0}, {INT, 255}, {INT, 255}},
                Make.NEVER);
            Check.due("run with bound " + bound, plain.run(1), drawn.run(1));
            Check.due("all after run with bound " + bound, State.of(plain), State.of(drawn));
        }
    }

    private static void appendsInPrefixOrder() {
        Check.says("Otherwise the node is appended after all earlier nodes (prefix order)");
        int[][] gen = {{PAIR, 0}, {PAIR, 0}, {INT, 9}, {INT, 99}, {PAIR, 0}, {INT, 199}, {INT, 255}};
        ChoiceShrink x = Make.found(8, gen, Make.NEVER, 255, 255, 255, 255);
        Check.due("V", "[5, 55, 55, 255]", State.value(x).toString());
    }

    private static void answersTheIndex() {
        Check.says("open is updated as in the Terms, and the answer is the new node's index (0 for the first node, "
            + "then 1, 2, ...).");
        ChoiceShrink x = new ChoiceShrink(1, 8);
        Check.due("addGen pair", 0, x.addGen(PAIR, 0));
        Check.due("addGen list", 1, x.addGen(LIST, 0));
        Check.due("a refused one takes no index", -1, x.addGen(INT, 256));
        Check.due("addGen int", 2, x.addGen(INT, 3));
        Check.due("stat(6) with one open", 0, x.stat(6));
        Check.due("addGen int", 3, x.addGen(INT, 4));
        Check.due("stat(6) with none open", 1, x.stat(6));
        Check.due("stat(2)", 4, x.stat(2));
    }

    private static void appendsOneNode() {
        Check.says("Appends a generator node.");
        for (int kind = INT; kind <= PAIR; kind++) {
            for (int before = 0; before <= 15; before++) {
                ChoiceShrink x = Make.tester(1, 8, Make.repeated(before, PAIR, 0), Make.NEVER);
                x.addGen(kind, 5);
                Check.due("stat(2) after kind " + kind, before + 1, x.stat(2));
            }
        }
    }

    private static void kindsHaveTheirChildren() {
        Check.says("G_INT carries a bound b (0..255) and has no children; G_LIST has one child (the element); G_PAIR "
            + "has two children (first, second).");
        completesAt(new int[] {INT});
        completesAt(new int[] {LIST, INT});
        completesAt(new int[] {PAIR, INT, INT});
        // Each child is the node that was added for it: a bound of its own shows which one is used.
        ChoiceShrink element = Make.found(8, new int[][] {{LIST, 0}, {INT, 9}}, Make.NEVER, 1, 255, 0);
        Check.due("V of a list", "[1, 5]", State.value(element).toString());
        ChoiceShrink pair = Make.found(8, new int[][] {{PAIR, 0}, {INT, 9}, {INT, 99}}, Make.NEVER, 255, 255);
        Check.due("V of a pair", "[5, 55]", State.value(pair).toString());
    }

    /** All generators of up to seven nodes. */
    private static void countsWhatIsOpen() {
        Check.says("Keep a count open := 1 before any node; each added node does open := open - 1, then G_LIST adds 1 "
            + "and G_PAIR adds 2.");
        for (int number = 0; number < 2187; number++) {
            ChoiceShrink x = new ChoiceShrink(1, 8);
            int open = 1;
            int digits = number;
            String kinds = "";
            for (int index = 0; index < 7; index++) {
                int kind = 1 + digits % 3;
                digits /= 3;
                kinds += " " + kind;
                Check.due("addGen of" + kinds, open == 0 ? -1 : index, x.addGen(kind, 5));
                if (open == 0) {
                    break;
                }
                open = open - 1 + (kind == LIST ? 1 : 0) + (kind == PAIR ? 2 : 0);
                Check.due("stat(6) of" + kinds, open == 0 ? 1 : 0, x.stat(6));
            }
        }
    }

    private static void tellsWhenComplete() {
        Check.says("The generator is COMPLETE when it has at least one node and open = 0.");
        completesAt(new int[] {INT});
        completesAt(new int[] {LIST, INT});
        completesAt(new int[] {LIST, LIST, INT});
        completesAt(new int[] {PAIR, INT, INT});
        completesAt(new int[] {PAIR, LIST, INT, INT});
        completesAt(new int[] {PAIR, PAIR, INT, LIST, INT, LIST, LIST, INT});
        completesAt(new int[] {PAIR, PAIR, PAIR, PAIR, INT, INT, INT, INT, INT});
        completesAt(new int[] {LIST, PAIR, LIST, INT, PAIR, INT, INT});
    }

    private static void completesAt(int[] kinds) {
        ChoiceShrink x = new ChoiceShrink(1, 8);
        x.addOp(ChoiceShrink.OP_PUSH, 1);
        for (int index = 0; index < kinds.length; index++) {
            Check.due("stat(6) before node " + index, 0, x.stat(6));
            Check.due("replay() before node " + index, -1, x.replay());
            Check.due("run(1) before node " + index, -1, x.run(1));
            Check.due("addGen", index, x.addGen(kinds[index], 5));
        }
        Check.due("stat(6)", 1, x.stat(6));
        Check.due("run(1)", 0, x.run(1));
    }

    private static void changesNothingElse() {
        Check.says("Nothing else changes.");
        ChoiceShrink x = new ChoiceShrink(5, 8);
        x.pushChoice(3);
        x.addGen(LIST, 0);
        Check.due("all after one node",
            "phase 0 S [] O [] V [] stat [0, 0, 1, 0, 1, 0, 0, 5] cursor [0, 0, 0, 0, 0, 0]", State.of(x));
        x.addGen(INT, 255);
        Check.due("all after two nodes",
            "phase 0 S [] O [] V [] stat [0, 0, 2, 0, 1, 0, 1, 5] cursor [0, 0, 0, 0, 0, 0]", State.of(x));
    }

    private static void refuses(Supplier<ChoiceShrink> made, int kind, int bound) {
        Refused.due("addGen(" + kind + ", " + bound + ")", made, x -> x.addGen(kind, bound));
    }
}
