/**
 * Generates values from recorded choices and shrinks the choice sequences at which a property fails.
 * README.md tells how it is used.
 */
public final class ChoiceShrink {
    public static final int PH_IDLE = 0;
    public static final int PH_FOUND = 1;
    public static final int PH_DONE = 2;
    public static final int R_HOLDS = 0;
    public static final int R_FAILS = 1;
    public static final int R_INVALID = 2;
    public static final int G_INT = 1;
    public static final int G_LIST = 2;
    public static final int G_PAIR = 3;
    public static final int OP_PUSH = 0;
    public static final int OP_VAL = 1;
    public static final int OP_LEN = 2;
    public static final int OP_ADD = 3;
    public static final int OP_SUB = 4;
    public static final int OP_MUL = 5;
    public static final int OP_LT = 6;
    public static final int OP_EQ = 7;
    public static final int OP_NOT = 8;
    public static final int OP_DUP = 9;
    public static final int OP_SWAP = 10;
    public static final int OP_DROP = 11;
    public static final int OP_OVER = 12;
    public static final int OP_JZ = 13;
    public static final int OP_JMP = 14;

    private static final int NONE = -1;

    private static final int MAX_SEED = 65535;
    private static final int MIN_CAP = 4;
    private static final int MAX_CAP = 32;
    private static final int MAX_CHOICE = 255;
    private static final int MAX_NODES = 16;
    private static final int MAX_OPS = 32;
    private static final int MAX_TARGET = 32;
    private static final int MAX_CELLS = 32;
    private static final int MAX_ELEMENTS = 8;
    private static final int MAX_STACK = 16;
    private static final int MAX_STEPS = 256;
    private static final int MAX_CASES = 16;
    private static final int MAX_BUDGET = 64;

    private static final int LIST_WIDTH = 4;
    private static final int PRNG_FACTOR = 1103515245;
    private static final int PRNG_ADDEND = 12345;

    private static final int PASS_DELETE = 1;
    private static final int PASS_ZERO = 2;
    private static final int PASS_LOWER = 3;
    private static final int PASS_SORT = 4;
    private static final int FIRST_BLOCK = 4;

    // The document bounds these loops only through the sizes of what they walk over: some hundred steps each.
    private static final int LOOP_LIMIT = 1000000;

    private final int cap;
    private int prngState;
    private int phaseNow = PH_IDLE;

    private final int[] genKind = new int[MAX_NODES];
    private final int[] genBound = new int[MAX_NODES];
    private final int[] genEnd = new int[MAX_NODES];
    private int genCount = 0;
    private int genOpen = 1;

    private final int[] opCode = new int[MAX_OPS];
    private final int[] opArg = new int[MAX_OPS];
    private int opCount = 0;

    private final int[] manual = new int[MAX_CAP];
    private int manualLength = 0;

    private final int[] current = new int[MAX_CAP];
    private int currentLength = 0;
    private final int[] original = new int[MAX_CAP];
    private int originalLength = 0;
    private final int[] value = new int[MAX_CELLS];
    private int valueCells = 0;

    private int trials = 0;
    private int accepted = 0;
    private int cases = 0;

    // The shrink cursor. Pass 0 means that it is not started, and then the others are 0 too.
    private int pass = 0;
    private int block = 0;
    private int index = 0;
    private int low = 0;
    private int high = 0;
    private int improved = 0;

    // The tape holds the choices of the one generation that is under way, apart from what is kept of a finding.
    private final int[] tape = new int[MAX_CAP];
    private int tapeLength = 0;
    private int taken = 0;
    private boolean drawing = false;
    private final int[] cells = new int[MAX_CELLS];
    private int cellCount = 0;

    // The lists that the generation is inside of, outermost first: one node each, so MAX_NODES is room enough.
    private final int[] listNode = new int[MAX_NODES];
    private final int[] listCell = new int[MAX_NODES];
    private int listDepth = 0;

    private final int[] stack = new int[MAX_STACK];
    private int stackDepth = 0;

    public ChoiceShrink(int seed, int cap) {
        this.prngState = clamp(seed, 0, MAX_SEED);
        this.cap = clamp(cap, MIN_CAP, MAX_CAP);
    }

    public int addGen(int kind, int bound) {
        if (phaseNow != PH_IDLE || kind < G_INT || kind > G_PAIR) {
            return NONE;
        }
        if (kind == G_INT && (bound < 0 || bound > MAX_CHOICE)) {
            return NONE;
        }
        if (genOpen == 0 || genCount >= MAX_NODES) {
            return NONE;
        }
        genKind[genCount] = kind;
        genBound[genCount] = kind == G_INT ? bound : 0;
        genCount++;
        genOpen += childrenOf(kind) - 1;
        if (genOpen == 0) {
            markSubtreeEnds();
        }
        return genCount - 1;
    }

    public int addOp(int op, int arg) {
        if (phaseNow != PH_IDLE || op < OP_PUSH || op > OP_JMP) {
            return NONE;
        }
        if ((op == OP_JZ || op == OP_JMP) && (arg < 0 || arg > MAX_TARGET)) {
            return NONE;
        }
        if (opCount >= MAX_OPS) {
            return NONE;
        }
        opCode[opCount] = op;
        opArg[opCount] = arg;
        opCount++;
        return opCount - 1;
    }

    public int pushChoice(int c) {
        if (c < 0 || c > MAX_CHOICE || manualLength >= cap) {
            return NONE;
        }
        manual[manualLength] = c;
        manualLength++;
        return manualLength;
    }

    public int replay() {
        if (!readyToTest()) {
            return NONE;
        }
        copy(manual, tape, manualLength);
        tapeLength = manualLength;
        int outcome = outcomeOfTape(false);
        if (outcome == R_FAILS) {
            keepFinding();
        }
        return outcome;
    }

    public int run(int count) {
        if (!readyToTest()) {
            return NONE;
        }
        int last = clamp(count, 1, MAX_CASES);
        for (int j = 1; j <= last; j++) {
            cases++;
            tapeLength = cap;
            if (outcomeOfTape(true) == R_FAILS) {
                keepFinding();
                return j;
            }
        }
        return 0;
    }

    public int shrink(int budget) {
        if (phaseNow != PH_FOUND) {
            return NONE;
        }
        int limit = clamp(budget, 1, MAX_BUDGET);
        if (pass == 0) {
            startPass(PASS_DELETE);
            moveToTrial();
        }
        int done = 0;
        while (done < limit && phaseNow == PH_FOUND) {
            performTrial();
            moveToTrial();
            done++;
        }
        return done;
    }

    public void discard() {
        currentLength = 0;
        originalLength = 0;
        valueCells = 0;
        manualLength = 0;
        trials = 0;
        accepted = 0;
        clearCursor();
        phaseNow = PH_IDLE;
    }

    public int phase() {
        return phaseNow;
    }

    public int seqLength() {
        return currentLength;
    }

    public int choiceAt(int i) {
        return i >= 0 && i < currentLength ? current[i] : NONE;
    }

    public int origLength() {
        return originalLength;
    }

    public int origChoiceAt(int i) {
        return i >= 0 && i < originalLength ? original[i] : NONE;
    }

    public int valueLength() {
        return valueCells;
    }

    public int valueAt(int i) {
        return i >= 0 && i < valueCells ? value[i] : NONE;
    }

    public int stat(int what) {
        switch (what) {
            case 0: return trials;
            case 1: return accepted;
            case 2: return genCount;
            case 3: return opCount;
            case 4: return manualLength;
            case 5: return cases;
            case 6: return genOpen == 0 ? 1 : 0;
            case 7: return prngState;
            default: return 0;
        }
    }

    public int cursor(int what) {
        switch (what) {
            case 0: return pass;
            case 1: return block;
            case 2: return index;
            case 3: return low;
            case 4: return high;
            case 5: return improved;
            default: return 0;
        }
    }

    private static int clamp(int number, int least, int most) {
        if (number < least) {
            return least;
        }
        return number > most ? most : number;
    }

    private static void copy(int[] from, int[] to, int length) {
        for (int j = 0; j < length; j++) {
            to[j] = from[j];
        }
    }

    private boolean readyToTest() {
        return phaseNow == PH_IDLE && genOpen == 0 && opCount > 0;
    }

    // The generator

    private static int childrenOf(int kind) {
        if (kind == G_PAIR) {
            return 2;
        }
        return kind == G_LIST ? 1 : 0;
    }

    private void markSubtreeEnds() {
        for (int node = 0; node < genCount; node++) {
            genEnd[node] = subtreeEnd(node);
        }
    }

    private int subtreeEnd(int node) {
        int open = 1;
        int end = node;
        while (open > 0 && end < genCount) {
            open += childrenOf(genKind[end]) - 1;
            end++;
        }
        return end;
    }

    // Generation

    private int outcomeOfTape(boolean draw) {
        drawing = draw;
        if (!generate()) {
            return R_INVALID;
        }
        return propertyHolds() ? R_HOLDS : R_FAILS;
    }

    /** Walks the nodes in prefix order, where the children of a pair simply come one after the other. */
    private boolean generate() {
        taken = 0;
        cellCount = 0;
        listDepth = 0;
        int node = 0;
        for (int step = 0; step < LOOP_LIMIT && node != NONE; step++) {
            if (listDepth > 0 && node == genEnd[listNode[listDepth - 1]]) {
                node = continueList();
            } else if (node >= genCount) {
                return true;
            } else if (genKind[node] == G_INT) {
                node = generateInt(node);
            } else if (genKind[node] == G_LIST) {
                node = openList(node);
            } else {
                node++;
            }
        }
        return false;
    }

    private int generateInt(int node) {
        int width = genBound[node] + 1;
        int choice = take(width);
        if (choice == NONE || !emit(choice % width)) {
            return NONE;
        }
        return node + 1;
    }

    /** Answers the list's end, because that is where generate() asks whether another element comes. */
    private int openList(int node) {
        if (!emit(0)) {
            return NONE;
        }
        listNode[listDepth] = node;
        listCell[listDepth] = cellCount - 1;
        listDepth++;
        return genEnd[node];
    }

    private int continueList() {
        int top = listDepth - 1;
        int node = listNode[top];
        int cell = listCell[top];
        int choice = cells[cell] == MAX_ELEMENTS ? 0 : take(LIST_WIDTH);
        if (choice == NONE) {
            return NONE;
        }
        if (choice == 0) {
            listDepth = top;
            return genEnd[node];
        }
        cells[cell]++;
        return node + 1;
    }

    private int take(int width) {
        if (taken >= tapeLength) {
            return NONE;
        }
        if (drawing) {
            prngState = prngState * PRNG_FACTOR + PRNG_ADDEND;
            tape[taken] = ((prngState >>> 16) & MAX_CHOICE) % width;
        }
        taken++;
        return tape[taken - 1];
    }

    private boolean emit(int cell) {
        if (cellCount >= MAX_CELLS) {
            return false;
        }
        cells[cellCount] = cell;
        cellCount++;
        return true;
    }

    // The property

    private boolean propertyHolds() {
        stackDepth = 0;
        int pc = 0;
        for (int steps = 0; steps < MAX_STEPS && pc != NONE && pc < opCount; steps++) {
            pc = execute(pc);
        }
        return pc >= opCount && stackDepth > 0 && stack[stackDepth - 1] != 0;
    }

    /** Answers the next pc, or NONE where the run stops with failure. */
    private int execute(int pc) {
        int op = opCode[pc];
        int arg = opArg[pc];
        int top = stackDepth - 1;
        int under = stackDepth - 2;
        if (stackDepth < cellsNeeded(op) || (addsCell(op) && stackDepth >= MAX_STACK)) {
            return NONE;
        }
        switch (op) {
            case OP_PUSH:
                push(arg);
                break;
            case OP_LEN:
                push(cellCount);
                break;
            case OP_DUP:
                push(stack[top]);
                break;
            case OP_OVER:
                push(stack[under]);
                break;
            case OP_VAL:
                stack[top] = cellOrZero(stack[top]);
                break;
            case OP_NOT:
                stack[top] = stack[top] == 0 ? 1 : 0;
                break;
            case OP_SWAP:
                int upper = stack[top];
                stack[top] = stack[under];
                stack[under] = upper;
                break;
            case OP_DROP:
                stackDepth = top;
                break;
            case OP_JZ:
                stackDepth = top;
                return stack[top] == 0 ? arg : pc + 1;
            case OP_JMP:
                return arg;
            default:
                stack[under] = combine(op, stack[under], stack[top]);
                stackDepth = top;
                break;
        }
        return pc + 1;
    }

    private static int cellsNeeded(int op) {
        switch (op) {
            case OP_PUSH:
            case OP_LEN:
            case OP_JMP:
                return 0;
            case OP_VAL:
            case OP_NOT:
            case OP_DUP:
            case OP_DROP:
            case OP_JZ:
                return 1;
            default:
                return 2;
        }
    }

    private static boolean addsCell(int op) {
        return op == OP_PUSH || op == OP_LEN || op == OP_DUP || op == OP_OVER;
    }

    private void push(int cell) {
        stack[stackDepth] = cell;
        stackDepth++;
    }

    private int cellOrZero(int i) {
        return i >= 0 && i < cellCount ? cells[i] : 0;
    }

    private static int combine(int op, int a, int b) {
        switch (op) {
            case OP_ADD: return a + b;
            case OP_SUB: return a - b;
            case OP_MUL: return a * b;
            case OP_LT: return a < b ? 1 : 0;
            default: return a == b ? 1 : 0;
        }
    }

    // Findings and trials

    private void keepFinding() {
        keepTape();
        copy(tape, original, taken);
        originalLength = taken;
        trials = 0;
        accepted = 0;
        clearCursor();
        phaseNow = PH_FOUND;
    }

    private void keepTape() {
        copy(tape, current, taken);
        currentLength = taken;
        copy(cells, value, cellCount);
        valueCells = cellCount;
    }

    private void performTrial() {
        int mid = (low + high) / 2;
        putCandidateOnTape(mid);
        trials++;
        boolean better = outcomeOfTape(false) == R_FAILS && tapeIsSmaller();
        if (better) {
            keepTape();
            accepted++;
            improved = 1;
        }
        if (pass == PASS_LOWER) {
            low = better ? low : mid + 1;
            high = better ? mid : high;
        } else if (pass != PASS_DELETE || !better) {
            startIndex(index + 1);
        }
    }

    private void putCandidateOnTape(int mid) {
        int gap = pass == PASS_DELETE ? block : 0;
        tapeLength = currentLength - gap;
        for (int j = 0; j < tapeLength; j++) {
            tape[j] = current[j < index ? j : j + gap];
        }
        if (pass == PASS_ZERO) {
            for (int j = index; j < index + block; j++) {
                tape[j] = 0;
            }
        } else if (pass == PASS_LOWER) {
            tape[index] = mid;
        } else if (pass == PASS_SORT) {
            tape[index] = current[index + 1];
            tape[index + 1] = current[index];
        }
    }

    private boolean tapeIsSmaller() {
        if (taken != currentLength) {
            return taken < currentLength;
        }
        for (int j = 0; j < taken; j++) {
            if (tape[j] != current[j]) {
                return tape[j] < current[j];
            }
        }
        return false;
    }

    // The shrink cursor

    private void moveToTrial() {
        for (int step = 0; step < LOOP_LIMIT && phaseNow == PH_FOUND && !atTrial(); step++) {
            stepOn();
        }
    }

    private boolean atTrial() {
        if (!insideSequence()) {
            return false;
        }
        switch (pass) {
            case PASS_ZERO: return !blockIsZero();
            case PASS_LOWER: return low < high;
            case PASS_SORT: return current[index] > current[index + 1];
            default: return true;
        }
    }

    private boolean insideSequence() {
        int span = pass == PASS_SORT ? 2 : block;
        return index + span <= currentLength;
    }

    private boolean blockIsZero() {
        for (int j = index; j < index + block; j++) {
            if (current[j] != 0) {
                return false;
            }
        }
        return true;
    }

    private void stepOn() {
        if (insideSequence()) {
            startIndex(index + 1);
        } else if (block > 1) {
            block /= 2;
            startIndex(0);
        } else if (pass != PASS_SORT) {
            startPass(pass + 1);
        } else if (improved == 1) {
            improved = 0;
            startPass(PASS_DELETE);
        } else {
            clearCursor();
            phaseNow = PH_DONE;
        }
    }

    private void startPass(int next) {
        pass = next;
        block = next == PASS_DELETE || next == PASS_ZERO ? FIRST_BLOCK : 1;
        startIndex(0);
    }

    private void startIndex(int next) {
        index = next;
        low = 0;
        high = pass == PASS_LOWER && next < currentLength ? current[next] : 0;
    }

    private void clearCursor() {
        pass = 0;
        block = 0;
        index = 0;
        low = 0;
        high = 0;
        improved = 0;
    }
}
