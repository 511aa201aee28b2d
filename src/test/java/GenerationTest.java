import java.util.ArrayList;
import java.util.Arrays;
import java.util.List;

/** The Terms "Choices and order", "Generation" and "Replay", seen through replay. */
public final class GenerationTest {
    private static final int INT = ChoiceShrink.G_INT;
    private static final int LIST = ChoiceShrink.G_LIST;
    private static final int PAIR = ChoiceShrink.G_PAIR;

    private static final int[][] LIST_OF_INT = Make.LIST_OF_INT;
    private static final int[][] LIST_THEN_INT = {{PAIR, 0}, {LIST, 0}, {INT, 255}, {INT, 255}};
    private static final int[][] LIST_OF_LIST = {{LIST, 0}, {LIST, 0}, {INT, 255}};

    public static void main(String[] args) {
        choicesAreInts();
        sequencesOfUpToCap();
        intsAreTheRemainder();
        intsOfTheLeastAndTheGreatestBound();
        aListTakesItsCellFirst();
        zeroStopsAList();
        anyOtherChoiceGoesOn();
        eightElementsStopAList();
        sevenElementsDoNot();
        everyLengthIsWritten();
        eightElementsStopAnInnerList();
        eightEmptyListsStopAnOuterList();
        pairsInTheirOrder();
        nestedShapes();
        aFailedTakeIsInvalid();
        anEmptySequenceIsInvalid();
        theLongestValue();
        takesYieldTheChoicesInTurn();
        unusedChoicesAreNotConsumed();
        Check.end("GenerationTest");
    }

    private static void choicesAreInts() {
        Check.says("Choices and order. A choice is an int 0..255.");
        for (int choice = 0; choice <= 255; choice++) {
            gives(Make.ints(1, 255), "[" + choice + "]", "[" + choice + "]", choice);
        }
        for (int seed = 0; seed < 300; seed++) {
            ChoiceShrink x = Make.tester(seed, 32, LIST_THEN_INT, Make.NEVER);
            x.run(1);
            for (int choice : State.sequence(x)) {
                Check.due("a drawn choice, " + choice, 1, choice >= 0 && choice <= 255 ? 1 : 0);
            }
        }
        ChoiceShrink x = new ChoiceShrink(1, 8);
        Check.due("pushChoice(-1)", -1, x.pushChoice(-1));
        Check.due("pushChoice(256)", -1, x.pushChoice(256));
    }

    private static void sequencesOfUpToCap() {
        Check.says("A choice sequence is a list of at most cap choices (cap from the constructor).");
        for (int cap = 4; cap <= 8; cap++) {
            int[] choices = new int[cap];
            Arrays.fill(choices, 255);
            Check.due("replay of " + cap + " ints with cap " + cap, ChoiceShrink.R_FAILS,
                Make.fed(cap, Make.ints(cap, 255), Make.NEVER, choices).replay());
            if (cap < 8) {
                ChoiceShrink more = Make.fed(cap, Make.ints(cap + 1, 255), Make.NEVER, choices);
                more.pushChoice(255);
                Check.due("replay of more ints than cap " + cap, ChoiceShrink.R_INVALID, more.replay());
            }
        }
    }

    private static void intsAreTheRemainder() {
        Check.says("gen(G_INT b): take a choice c; emit the cell c % (b+1).");
        for (int bound = 0; bound <= 255; bound++) {
            for (int choice : new int[] {0, 1, bound - 1, bound, bound + 1, 2 * bound + 1, 2 * bound + 2, 254, 255}) {
                if (choice >= 0 && choice <= 255) {
                    int left = choice;
                    while (left > bound) {
                        left -= bound + 1;
                    }
                    gives(new int[][] {{INT, bound}}, "[" + choice + "]", "[" + left + "]", choice);
                }
            }
        }
    }

    private static void intsOfTheLeastAndTheGreatestBound() {
        Check.says("G_INT carries a bound b (0..255)");
        gives(new int[][] {{INT, 0}}, "[0]", "[0]", 0);
        gives(new int[][] {{INT, 0}}, "[1]", "[0]", 1);
        gives(new int[][] {{INT, 0}}, "[255]", "[0]", 255);
        gives(new int[][] {{INT, 1}}, "[255]", "[1]", 255);
        gives(new int[][] {{INT, 254}}, "[254]", "[254]", 254);
        gives(new int[][] {{INT, 254}}, "[255]", "[0]", 255);
        gives(new int[][] {{INT, 255}}, "[255]", "[255]", 255);
    }

    private static void aListTakesItsCellFirst() {
        Check.says("gen(G_LIST): emit a cell at position q (placeholder 0)");
        gives(LIST_OF_INT, "[1, 200, 0]", "[1, 200]", 1, 200, 0);
        gives(new int[][] {{PAIR, 0}, {INT, 255}, {LIST, 0}, {INT, 255}}, "[9, 3, 4, 0]", "[9, 1, 4]", 9, 3, 4, 0);
    }

    private static void zeroStopsAList() {
        Check.says("take a choice c; if c = 0, stop");
        gives(LIST_OF_INT, "[0]", "[0]", 0, 5, 6);
        gives(LIST_OF_INT, "[7, 5, 0]", "[1, 5]", 7, 5, 0, 6);
        gives(LIST_THEN_INT, "[0, 5]", "[0, 5]", 0, 5, 6);
        // A 0 that an element takes stops nothing.
        gives(LIST_OF_INT, "[1, 0, 1, 0, 0]", "[2, 0, 0]", 1, 0, 1, 0, 0);
    }

    private static void anyOtherChoiceGoesOn() {
        Check.says("if c = 0, stop", "any other choice goes on");
        for (int choice = 1; choice <= 255; choice++) {
            gives(LIST_OF_INT, "[" + choice + ", 5, 0]", "[1, 5]", choice, 5, 0);
        }
    }

    private static void eightElementsStopAList() {
        Check.says("m := 0; repeat: if m = 8, stop (no choice taken)");
        gives(LIST_OF_INT, "[1, 1, 1, 2, 1, 3, 1, 4, 1, 5, 1, 6, 1, 7, 1, 8]", "[8, 1, 2, 3, 4, 5, 6, 7, 8]",
            1, 1, 1, 2, 1, 3, 1, 4, 1, 5, 1, 6, 1, 7, 1, 8);
        gives(LIST_OF_INT, "[1, 1, 1, 2, 1, 3, 1, 4, 1, 5, 1, 6, 1, 7, 1, 8]", "[8, 1, 2, 3, 4, 5, 6, 7, 8]",
            1, 1, 1, 2, 1, 3, 1, 4, 1, 5, 1, 6, 1, 7, 1, 8, 1, 9, 0);
        // What comes behind the list gets the next choice.
        gives(LIST_THEN_INT, "[1, 1, 1, 2, 1, 3, 1, 4, 1, 5, 1, 6, 1, 7, 1, 8, 99]",
            "[8, 1, 2, 3, 4, 5, 6, 7, 8, 99]", 1, 1, 1, 2, 1, 3, 1, 4, 1, 5, 1, 6, 1, 7, 1, 8, 99, 0);
    }

    private static void sevenElementsDoNot() {
        Check.says("if m = 8, stop", "with one less a choice is taken");
        gives(LIST_THEN_INT, "[1, 1, 1, 2, 1, 3, 1, 4, 1, 5, 1, 6, 1, 7, 0, 99]",
            "[7, 1, 2, 3, 4, 5, 6, 7, 99]", 1, 1, 1, 2, 1, 3, 1, 4, 1, 5, 1, 6, 1, 7, 0, 99);
        isInvalid(LIST_OF_INT, 1, 1, 1, 2, 1, 3, 1, 4, 1, 5, 1, 6, 1, 7);
        isInvalid(LIST_OF_INT, 1, 1, 1, 2, 1, 3, 1, 4, 1, 5, 1, 6, 1, 7, 1);
    }

    private static void everyLengthIsWritten() {
        Check.says("gen(element); m := m+1. On stop, cell q := m.");
        for (int length = 0; length <= 8; length++) {
            List<Integer> choices = new ArrayList<>();
            List<Integer> value = new ArrayList<>(List.of(length));
            for (int element = 0; element < length; element++) {
                choices.addAll(List.of(2, 50 + element));
                value.add(50 + element);
            }
            if (length < 8) {
                choices.add(0);
            }
            int[] fed = choices.stream().mapToInt(Integer::intValue).toArray();
            gives(LIST_OF_INT, choices.toString(), value.toString(), fed);
        }
    }

    private static void eightElementsStopAnInnerList() {
        Check.says("if m = 8, stop (no choice taken)", "an inner list: the next choice is the outer one's");
        gives(LIST_OF_LIST, "[1, 1, 1, 1, 2, 1, 3, 1, 4, 1, 5, 1, 6, 1, 7, 1, 8, 0]",
            "[1, 8, 1, 2, 3, 4, 5, 6, 7, 8]", 1, 1, 1, 1, 2, 1, 3, 1, 4, 1, 5, 1, 6, 1, 7, 1, 8, 0, 1);
        gives(LIST_OF_LIST, "[1, 1, 1, 1, 2, 1, 3, 1, 4, 1, 5, 1, 6, 1, 7, 1, 8, 1, 0, 0]",
            "[2, 8, 1, 2, 3, 4, 5, 6, 7, 8, 0]", 1, 1, 1, 1, 2, 1, 3, 1, 4, 1, 5, 1, 6, 1, 7, 1, 8, 1, 0, 0);
    }

    private static void eightEmptyListsStopAnOuterList() {
        Check.says("if m = 8, stop (no choice taken)", "an outer list of empty ones");
        gives(LIST_OF_LIST, "[1, 0, 1, 0, 1, 0, 1, 0, 1, 0, 1, 0, 1, 0, 1, 0]", "[8, 0, 0, 0, 0, 0, 0, 0, 0]",
            1, 0, 1, 0, 1, 0, 1, 0, 1, 0, 1, 0, 1, 0, 1, 0, 1, 0);
    }

    private static void pairsInTheirOrder() {
        Check.says("gen(G_PAIR): gen(first); then gen(second).");
        gives(new int[][] {{PAIR, 0}, {INT, 9}, {INT, 99}}, "[123, 234]", "[3, 34]", 123, 234);
        gives(LIST_THEN_INT, "[3, 4, 0, 5]", "[1, 4, 5]", 3, 4, 0, 5, 6);
        gives(new int[][] {{PAIR, 0}, {PAIR, 0}, {INT, 9}, {INT, 99}, {INT, 199}}, "[255, 255, 255]", "[5, 55, 55]",
            255, 255, 255);
        gives(new int[][] {{PAIR, 0}, {INT, 9}, {PAIR, 0}, {INT, 99}, {INT, 199}}, "[255, 255, 255]", "[5, 55, 55]",
            255, 255, 255);
    }

    private static void nestedShapes() {
        Check.says("Generation is gen(root)");
        gives(new int[][] {{LIST, 0}, {PAIR, 0}, {INT, 255}, {INT, 9}},
            "[1, 20, 21, 1, 30, 31, 0]", "[2, 20, 1, 30, 1]", 1, 20, 21, 1, 30, 31, 0);
        gives(LIST_OF_LIST, "[1, 1, 7, 1, 8, 0, 1, 0, 1, 1, 9, 0, 0]", "[3, 2, 7, 8, 0, 1, 9]",
            1, 1, 7, 1, 8, 0, 1, 0, 1, 1, 9, 0, 0);
        gives(new int[][] {{PAIR, 0}, {PAIR, 0}, {INT, 255}, {LIST, 0}, {INT, 255}, {PAIR, 0}, {INT, 255}, {INT, 255}},
            "[1, 2, 3, 0, 4, 5]", "[1, 1, 3, 4, 5]", 1, 2, 3, 0, 4, 5, 6);
        gives(new int[][] {{LIST, 0}, {PAIR, 0}, {LIST, 0}, {INT, 255}, {LIST, 0}, {INT, 9}},
            "[1, 1, 50, 0, 0, 1, 0, 1, 60, 0, 0]", "[2, 1, 50, 0, 0, 1, 0]", 1, 1, 50, 0, 0, 1, 0, 1, 60, 0, 0);
    }

    private static void aFailedTakeIsInvalid() {
        Check.says("or a failed take, makes the generation INVALID and ends it at once");
        onlyTheWholeIsValid(Make.ints(1, 255), 7);
        onlyTheWholeIsValid(Make.ints(8, 255), 1, 2, 3, 4, 5, 6, 7, 8);
        onlyTheWholeIsValid(LIST_OF_INT, 0);
        onlyTheWholeIsValid(LIST_OF_INT, 1, 5, 1, 6, 0);
        onlyTheWholeIsValid(LIST_OF_INT, 1, 1, 1, 2, 1, 3, 1, 4, 1, 5, 1, 6, 1, 7, 1, 8);
        onlyTheWholeIsValid(LIST_THEN_INT, 1, 5, 0, 9);
        onlyTheWholeIsValid(LIST_OF_LIST, 1, 1, 7, 1, 8, 0, 1, 0, 1, 1, 9, 0, 0);
        onlyTheWholeIsValid(LIST_OF_LIST, 1, 0, 1, 0, 1, 0, 1, 0, 1, 0, 1, 0, 1, 0, 1, 0);
    }

    private static void onlyTheWholeIsValid(int[][] gen, int... whole) {
        for (int length = 0; length < whole.length; length++) {
            isInvalid(gen, Arrays.copyOf(whole, length));
        }
        ChoiceShrink x = Make.found(32, gen, Make.NEVER, whole);
        Check.due("S of the whole", Arrays.toString(whole), State.sequence(x).toString());
    }

    private static void anEmptySequenceIsInvalid() {
        Check.says("a take when len(C) choices have already been taken fails", "the first, when there is none");
        isInvalid(Make.ints(1, 0));
        isInvalid(LIST_OF_INT);
        isInvalid(Make.ints(2, 255));
    }

    /** No generator of 16 nodes gives more than 27 cells from 32 choices, so a 33rd cell is never come to. */
    private static void theLongestValue() {
        Check.says("Generation. Generation from a source of choices gives a VALUE: a list of at most 32 int cells.");
        int[][] gen = Make.joined(new int[][] {{PAIR, 0}, {LIST, 0}}, Make.ints(5, 255), Make.ints(1, 255));
        List<Integer> choices = new ArrayList<>();
        List<Integer> value = new ArrayList<>(List.of(5));
        for (int element = 0; element < 5; element++) {
            choices.add(1);
            for (int i = 0; i < 5; i++) {
                choices.add(100 + 10 * element + i);
                value.add(100 + 10 * element + i);
            }
        }
        choices.addAll(List.of(0, 200));
        value.add(200);
        int[] fed = choices.stream().mapToInt(Integer::intValue).toArray();
        Check.due("choices", 32, fed.length);
        gives(gen, choices.toString(), value.toString(), fed);
        ChoiceShrink x = Make.found(32, gen, Make.NEVER, fed);
        Check.due("valueLength()", 27, x.valueLength());
        Check.due("valueAt(26)", 200, x.valueAt(26));
        Check.due("valueAt(27)", -1, x.valueAt(27));
    }

    private static void takesYieldTheChoicesInTurn() {
        Check.says("Replay of a sequence C: the j-th take (counting from 0) yields C[j]");
        gives(Make.ints(8, 255), "[8, 7, 6, 5, 4, 3, 2, 1]", "[8, 7, 6, 5, 4, 3, 2, 1]", 8, 7, 6, 5, 4, 3, 2, 1);
    }

    private static void unusedChoicesAreNotConsumed() {
        Check.says("consumed is the number of takes that succeeded; the consumed prefix is C[0..consumed-1]");
        gives(Make.ints(2, 255), "[7, 3]", "[7, 3]", 7, 3);
        gives(Make.ints(2, 255), "[7, 3]", "[7, 3]", 7, 3, 1);
        gives(Make.ints(1, 255), "[7]", "[7]", 7, 3, 1, 0, 0);
        int[] full = new int[32];
        gives(LIST_OF_INT, "[0]", "[0]", full);
    }

    private static void gives(int[][] gen, String prefix, String value, int... choices) {
        ChoiceShrink x = Make.found(32, gen, Make.NEVER, choices);
        String told = " of a replay of " + Arrays.toString(choices);
        Check.due("S" + told, prefix, State.sequence(x).toString());
        Check.due("O" + told, prefix, State.original(x).toString());
        Check.due("V" + told, value, State.value(x).toString());
        Check.due("stat(4)" + told, choices.length, x.stat(4));
    }

    private static void isInvalid(int[][] gen, int... choices) {
        ChoiceShrink x = Make.fed(32, gen, Make.NEVER, choices);
        String before = State.everywhere(x);
        Check.due("replay() of " + Arrays.toString(choices), ChoiceShrink.R_INVALID, x.replay());
        Check.due("all after an invalid replay", before, State.everywhere(x));
    }
}
