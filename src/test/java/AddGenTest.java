/** Promise 2: addGen. */
public final class AddGenTest {
    public static void main(String[] args) {
        answersTheIndex();
        refusesWrongKinds();
        refusesWrongBounds();
        ignoresTheBoundOfListsAndPairs();
        refusesWhenComplete();
        refusesASeventeenthNode();
        takesASixteenthNodeThatCompletes();
        tellsWhenComplete();
        refusesOutsideIdle();
        changesNothingElse();
        Check.end("AddGenTest");
    }

    private static void answersTheIndex() {
        ChoiceShrink x = new ChoiceShrink(1, 8);
        Check.due("addGen pair", 0, x.addGen(ChoiceShrink.G_PAIR, 0));
        Check.due("addGen list", 1, x.addGen(ChoiceShrink.G_LIST, 0));
        Check.due("addGen int", 2, x.addGen(ChoiceShrink.G_INT, 3));
        Check.due("addGen int", 3, x.addGen(ChoiceShrink.G_INT, 4));
        Check.due("stat(2)", 4, x.stat(2));
    }

    private static void refusesWrongKinds() {
        for (int kind : new int[] {0, 4, 5, -1, -3, Integer.MIN_VALUE, Integer.MAX_VALUE}) {
            refuses(new ChoiceShrink(1, 8), kind, 5);
        }
    }

    private static void refusesWrongBounds() {
        for (int bound : new int[] {-1, -255, 256, 257, Integer.MIN_VALUE, Integer.MAX_VALUE}) {
            refuses(new ChoiceShrink(1, 8), ChoiceShrink.G_INT, bound);
        }
        for (int bound : new int[] {0, 1, 128, 254, 255}) {
            ChoiceShrink x = new ChoiceShrink(1, 8);
            Check.due("addGen int " + bound, 0, x.addGen(ChoiceShrink.G_INT, bound));
        }
    }

    private static void ignoresTheBoundOfListsAndPairs() {
        for (int bound : new int[] {-1, 0, 255, 256, Integer.MIN_VALUE, Integer.MAX_VALUE}) {
            int[][] gen = {
                {ChoiceShrink.G_PAIR, bound}, {ChoiceShrink.G_LIST, bound},
                {ChoiceShrink.G_INT, 255}, {ChoiceShrink.G_INT, 255}};
            ChoiceShrink x = Make.fed(8, gen, Make.NEVER, 200, 77, 0, 99);
            Check.due("nodes with bound " + bound, 4, x.stat(2));
            Check.due("replay with bound " + bound, ChoiceShrink.R_FAILS, x.replay());
            Check.due("value with bound " + bound, "[1, 77, 99]", State.value(x).toString());
        }
    }

    private static void refusesWhenComplete() {
        ChoiceShrink x = Make.tester(1, 8, Make.LIST_OF_INT, Make.NEVER);
        refuses(x, ChoiceShrink.G_INT, 5);
        refuses(x, ChoiceShrink.G_LIST, 5);
        refuses(x, ChoiceShrink.G_PAIR, 5);
        refuses(x, 0, 5);
    }

    private static void refusesASeventeenthNode() {
        ChoiceShrink x = new ChoiceShrink(1, 8);
        for (int index = 0; index < 16; index++) {
            Check.due("addGen pair", index, x.addGen(ChoiceShrink.G_PAIR, 0));
        }
        refuses(x, ChoiceShrink.G_INT, 5);
        refuses(x, ChoiceShrink.G_LIST, 5);
        refuses(x, ChoiceShrink.G_PAIR, 5);
        Check.due("stat(2)", 16, x.stat(2));
        Check.due("stat(6)", 0, x.stat(6));
    }

    private static void takesASixteenthNodeThatCompletes() {
        ChoiceShrink x = new ChoiceShrink(1, 32);
        for (int index = 0; index < 15; index++) {
            Check.due("addGen list", index, x.addGen(ChoiceShrink.G_LIST, 0));
            Check.due("stat(6)", 0, x.stat(6));
        }
        Check.due("addGen int", 15, x.addGen(ChoiceShrink.G_INT, 9));
        Check.due("stat(6)", 1, x.stat(6));
        refuses(x, ChoiceShrink.G_INT, 5);
        x.addOp(ChoiceShrink.OP_PUSH, 0);
        Make.feed(x, 1, 1, 1, 1, 1, 1, 1, 1, 1, 1, 1, 1, 1, 1, 1, 27, 0, 0, 0, 0, 0, 0, 0, 0, 0, 0, 0, 0, 0, 0, 0);
        Check.due("replay of fifteen nested lists", ChoiceShrink.R_FAILS, x.replay());
        Check.due("value of fifteen nested lists",
            "[1, 1, 1, 1, 1, 1, 1, 1, 1, 1, 1, 1, 1, 1, 1, 7]", State.value(x).toString());
    }

    private static void tellsWhenComplete() {
        int[] kinds = {ChoiceShrink.G_PAIR, ChoiceShrink.G_PAIR, ChoiceShrink.G_INT, ChoiceShrink.G_LIST,
            ChoiceShrink.G_INT, ChoiceShrink.G_LIST, ChoiceShrink.G_LIST, ChoiceShrink.G_INT};
        ChoiceShrink x = new ChoiceShrink(1, 8);
        for (int index = 0; index < kinds.length; index++) {
            Check.due("stat(6) before node " + index, 0, x.stat(6));
            Check.due("addGen", index, x.addGen(kinds[index], 5));
        }
        Check.due("stat(6)", 1, x.stat(6));
    }

    private static void refusesOutsideIdle() {
        ChoiceShrink x = Make.fed(8, Make.LIST_OF_INT, Make.NEVER, 0);
        x.replay();
        Check.due("phase()", ChoiceShrink.PH_FOUND, x.phase());
        refuses(x, ChoiceShrink.G_INT, 5);
        refuses(x, ChoiceShrink.G_LIST, 5);
        x.shrink(64);
        Check.due("phase()", ChoiceShrink.PH_DONE, x.phase());
        refuses(x, ChoiceShrink.G_INT, 5);
        refuses(x, ChoiceShrink.G_PAIR, 5);
    }

    private static void changesNothingElse() {
        ChoiceShrink x = new ChoiceShrink(5, 8);
        x.pushChoice(3);
        x.addGen(ChoiceShrink.G_LIST, 0);
        Check.due("all after one node",
            "phase 0 S [] O [] V [] stat [0, 0, 1, 0, 1, 0, 0, 5] cursor [0, 0, 0, 0, 0, 0]", State.of(x));
    }

    private static void refuses(ChoiceShrink x, int kind, int bound) {
        String before = State.of(x);
        String call = "addGen(" + kind + ", " + bound + ")";
        Check.due(call, -1, x.addGen(kind, bound));
        Check.due("all after " + call, before, State.of(x));
    }
}
