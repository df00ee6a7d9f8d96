/** Finds out what programs with two small inputs can do, for all inputs. */
public final class InputExplorer {
    public static final int BAD = -1;
    public static final int FULL = -2;
    public static final int NONE = -1000000000;

    private static final int SET = 0;
    private static final int ADD = 1;
    private static final int SUB = 2;
    private static final int TIMES = 3;
    private static final int LESS = 4;
    private static final int EQUAL = 5;
    private static final int GOTO = 6;
    private static final int CHECK = 7;

    private static final int MOST_STEPS = 12;
    private static final int REGISTERS = 4;
    private static final int MOST_AB = 15;
    private static final int MOST_SET = 20;
    private static final int MOST_TIMES = 3;
    private static final int SIDE = 16;
    private static final int INPUTS = 256;
    private static final int ALL_REGISTERS = 1024;
    private static final int ALL_PATHS = 4096;

    private static final int LEAST = 0;
    private static final int GREATEST = 1;

    private final int[] stepKind = new int[MOST_STEPS];
    private final int[] stepA = new int[MOST_STEPS];
    private final int[] stepB = new int[MOST_STEPS];
    private final int[] stepN = new int[MOST_STEPS];
    private int stepCount = 0;

    // What the runs of the program as it stands now do. A run never goes back,
    // so its path is a set of positions: bit p is 1 when it does the step at p.
    private final int[] pathOf = new int[INPUTS];
    private final boolean[] fails = new boolean[INPUTS];
    // Register r of the run for an input is at REGISTERS * input + r.
    private final int[] registers = new int[ALL_REGISTERS];

    private final boolean[] isMarked = new boolean[ALL_PATHS];
    private int markCount = 0;

    public InputExplorer() {
        programChanged();
    }

    public int step(int kind, int ab, int n) {
        if (kind < SET || kind > CHECK || ab < 0 || ab > MOST_AB || !isNumberFor(kind, n)) {
            return BAD;
        }
        if (stepCount >= MOST_STEPS) {
            return FULL;
        }
        int position = stepCount;
        stepKind[position] = kind;
        stepA[position] = ab % REGISTERS;
        stepB[position] = ab / REGISTERS;
        stepN[position] = n;
        stepCount = position + 1;
        programChanged();
        return position;
    }

    public int drop() {
        if (stepCount <= 0) {
            return BAD;
        }
        stepCount--;
        programChanged();
        return stepCount;
    }

    public int length() {
        return stepCount;
    }

    public int reach(int p) {
        if (!isStep(p)) {
            return BAD;
        }
        int count = 0;
        for (int input = 0; input < INPUTS; input++) {
            if (doesStep(input, p)) {
                count++;
            }
        }
        return count;
    }

    public int firstAt(int p, int from) {
        if (!isStep(p)) {
            return BAD;
        }
        for (int input = from < 0 ? 0 : from; input < INPUTS; input++) {
            if (doesStep(input, p)) {
                return input;
            }
        }
        return BAD;
    }

    public int failing() {
        int count = 0;
        for (int input = 0; input < INPUTS; input++) {
            if (fails[input]) {
                count++;
            }
        }
        return count;
    }

    public int firstFailing(int from) {
        for (int input = from < 0 ? 0 : from; input < INPUTS; input++) {
            if (fails[input]) {
                return input;
            }
        }
        return BAD;
    }

    public int paths() {
        int count = 0;
        for (int input = 0; input < INPUTS; input++) {
            // Each path is counted once, at the least input that has it.
            if (leastAlike(input) == input) {
                count++;
            }
        }
        return count;
    }

    public int alike(int input) {
        if (!isInput(input)) {
            return BAD;
        }
        int count = 0;
        for (int other = 0; other < INPUTS; other++) {
            if (pathOf[other] == pathOf[input]) {
                count++;
            }
        }
        return count;
    }

    public int first(int input) {
        if (!isInput(input)) {
            return BAD;
        }
        return leastAlike(input);
    }

    public int mark(int input) {
        if (!isInput(input)) {
            return BAD;
        }
        int path = pathOf[input];
        if (!isMarked[path]) {
            isMarked[path] = true;
            markCount++;
        }
        return markCount;
    }

    public int unmarked() {
        for (int input = 0; input < INPUTS; input++) {
            if (!isMarked[pathOf[input]]) {
                return input;
            }
        }
        return BAD;
    }

    public int extreme(int r, int what) {
        if (!isRegister(r) || what < LEAST || what > GREATEST) {
            return NONE;
        }
        int best = NONE;
        for (int input = 0; input < INPUTS; input++) {
            if (!fails[input]) {
                int value = registers[REGISTERS * input + r];
                boolean better = what == LEAST ? value < best : value > best;
                // No register can hold NONE, so it stands for no run met yet.
                if (best == NONE || better) {
                    best = value;
                }
            }
        }
        return best;
    }

    public int ending(int r, int v) {
        if (!isRegister(r)) {
            return 0;
        }
        int count = 0;
        for (int input = 0; input < INPUTS; input++) {
            if (!fails[input] && registers[REGISTERS * input + r] == v) {
                count++;
            }
        }
        return count;
    }

    public int steps(int input) {
        if (!isInput(input)) {
            return BAD;
        }
        int count = 0;
        for (int position = 0; position < stepCount; position++) {
            if (doesStep(input, position)) {
                count++;
            }
        }
        return count;
    }

    private static boolean isInput(int input) {
        return input >= 0 && input < INPUTS;
    }

    private static boolean isRegister(int r) {
        return r >= 0 && r < REGISTERS;
    }

    private boolean isStep(int position) {
        return position >= 0 && position < stepCount;
    }

    private boolean isNumberFor(int kind, int n) {
        switch (kind) {
            case SET:
                return n >= -MOST_SET && n <= MOST_SET;
            case TIMES:
                return n >= -MOST_TIMES && n <= MOST_TIMES;
            case LESS:
            case EQUAL:
            case GOTO:
                return n > stepCount && n <= MOST_STEPS;
            default:
                return true;
        }
    }

    private boolean doesStep(int input, int position) {
        return (pathOf[input] >> position & 1) == 1;
    }

    private int leastAlike(int input) {
        for (int other = 0; other < input; other++) {
            if (pathOf[other] == pathOf[input]) {
                return other;
            }
        }
        return input;
    }

    private void programChanged() {
        forgetMarks();
        for (int input = 0; input < INPUTS; input++) {
            runFor(input);
        }
    }

    private void forgetMarks() {
        for (int path = 0; path < ALL_PATHS; path++) {
            isMarked[path] = false;
        }
        markCount = 0;
    }

    private void runFor(int input) {
        int base = REGISTERS * input;
        registers[base] = input % SIDE;
        registers[base + 1] = input / SIDE;
        registers[base + 2] = 0;
        registers[base + 3] = 0;
        int path = 0;
        int next = 0;
        boolean failed = false;
        // Steps only lead forward, so one walk over the positions meets each
        // step of the run; those that a jump passes over are left out.
        for (int position = 0; position < stepCount && !failed; position++) {
            if (position == next) {
                path |= 1 << position;
                failed = failsAt(position, base);
                next = positionAfter(position, base);
                calculate(position, base);
            }
        }
        pathOf[input] = path;
        fails[input] = failed;
    }

    private boolean failsAt(int position, int base) {
        int a = base + stepA[position];
        int b = base + stepB[position];
        return stepKind[position] == CHECK && registers[a] > registers[b];
    }

    private int positionAfter(int position, int base) {
        int a = base + stepA[position];
        int b = base + stepB[position];
        boolean jumps = false;
        switch (stepKind[position]) {
            case LESS:
                jumps = registers[a] < registers[b];
                break;
            case EQUAL:
                jumps = registers[a] == registers[b];
                break;
            case GOTO:
                jumps = true;
                break;
            default:
                break;
        }
        return jumps ? stepN[position] : position + 1;
    }

    private void calculate(int position, int base) {
        int a = base + stepA[position];
        int b = base + stepB[position];
        switch (stepKind[position]) {
            case SET:
                registers[a] = stepN[position];
                break;
            case ADD:
                registers[a] += registers[b];
                break;
            case SUB:
                registers[a] -= registers[b];
                break;
            case TIMES:
                registers[a] *= stepN[position];
                break;
            default:
                break;
        }
    }
}
