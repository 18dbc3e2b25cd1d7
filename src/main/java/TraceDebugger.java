/** A debugger that can go back in time. */
public final class TraceDebugger {
    public static final int SET = 0;
    public static final int ADD = 1;
    public static final int SUB = 2;
    public static final int MUL = 3;
    public static final int FETCH = 4;
    public static final int PUT = 5;
    public static final int IFPOS = 6;
    public static final int GOTO = 7;
    public static final int HALT = 8;
    public static final int BAD = -1;
    public static final int FULL = -2;
    public static final int NONE = -3;

    private static final int MAX_INSTRUCTIONS = 20;
    private static final int MAX_STEPS = 200;
    private static final int TIMES = MAX_STEPS + 1;
    private static final int VARIABLES = 6;
    private static final int CELLS = 8;
    private static final int CELL_MASK = 7;
    private static final int INPUT_VARIABLE = 5;

    // Variables and cells share one numbering of places, the cells behind the variables,
    // so that one table holds every state and one number says what a step wrote.
    private static final int FIRST_CELL = VARIABLES;
    private static final int PLACES = VARIABLES + CELLS;
    private static final int ALL_PLACES = TIMES * PLACES;
    private static final int NOWHERE = -1;

    private final int[] opOf = new int[MAX_INSTRUCTIONS];
    private final int[] xOf = new int[MAX_INSTRUCTIONS];
    private final int[] yOf = new int[MAX_INSTRUCTIONS];
    private final int[] zOf = new int[MAX_INSTRUCTIONS];
    private int instructionCount = 0;

    // The whole execution is kept, so that going back is no more than choosing a time.
    // Steps write from time 1 on: at time 0 all stays 0, as it was made, but the input.
    private final int[] valueAt = new int[ALL_PLACES];
    private final int[] nextAt = new int[TIMES];
    private final int[] writtenBy = new int[TIMES];
    private int stepCount = 0;
    private int now = 0;

    public TraceDebugger() {
    }

    public int emit(int op, int x, int y, int z) {
        if (instructionCount >= MAX_INSTRUCTIONS) {
            return FULL;
        }
        if (!isInstruction(op, x, y, z)) {
            return BAD;
        }
        opOf[instructionCount] = op;
        xOf[instructionCount] = x;
        yOf[instructionCount] = y;
        zOf[instructionCount] = z;
        instructionCount++;
        execute();
        return instructionCount;
    }

    public int input(int value) {
        valueAt[INPUT_VARIABLE] = value;
        execute();
        return stepCount;
    }

    public int steps() {
        return stepCount;
    }

    public int goTo(int t) {
        if (t < 0 || t > stepCount) {
            return BAD;
        }
        now = t;
        return nextAt[t];
    }

    public int time() {
        return now;
    }

    public int variable(int v) {
        return isVariable(v) ? valueAt[now * PLACES + v] : 0;
    }

    public int cell(int c) {
        return isCell(c) ? valueAt[now * PLACES + FIRST_CELL + c] : 0;
    }

    public int lastWrite(int what, int v) {
        if (what == 0 && isVariable(v)) {
            return latestStepThatWrote(v);
        }
        if (what == 1 && isCell(v)) {
            return latestStepThatWrote(FIRST_CELL + v);
        }
        return BAD;
    }

    public int runTo(int i) {
        if (!isInstructionNumber(i)) {
            return BAD;
        }
        for (int t = now + 1; t <= stepCount; t++) {
            if (nextAt[t] == i) {
                now = t;
                return t;
            }
        }
        return NONE;
    }

    public int backTo(int i) {
        if (!isInstructionNumber(i)) {
            return BAD;
        }
        for (int t = now - 1; t >= 0; t--) {
            if (nextAt[t] == i) {
                now = t;
                return t;
            }
        }
        return NONE;
    }

    public int backBeforeWrite(int v) {
        if (!isVariable(v)) {
            return BAD;
        }
        int step = latestStepThatWrote(v);
        if (step == 0) {
            return NONE;
        }
        now = step - 1;
        return now;
    }

    private static boolean isVariable(int v) {
        return v >= 0 && v < VARIABLES;
    }

    private static boolean isCell(int c) {
        return c >= 0 && c < CELLS;
    }

    // A jump may name an instruction that is not there (yet), so the program's length plays no part.
    private static boolean isInstructionNumber(int i) {
        return i >= 0 && i < MAX_INSTRUCTIONS;
    }

    private static boolean isInstruction(int op, int x, int y, int z) {
        switch (op) {
            case SET:
                return isVariable(x);
            case ADD:
            case SUB:
            case MUL:
                return isVariable(x) && isVariable(y) && isVariable(z);
            case FETCH:
            case PUT:
                return isVariable(x) && isVariable(y);
            case IFPOS:
                return isVariable(x) && isInstructionNumber(y);
            case GOTO:
                return isInstructionNumber(x);
            case HALT:
                return true;
            default:
                return false;
        }
    }

    private int latestStepThatWrote(int place) {
        for (int step = now; step > 0; step--) {
            if (writtenBy[step] == place) {
                return step;
            }
        }
        return 0;
    }

    private void execute() {
        now = 0;
        stepCount = 0;
        for (int step = 1; step <= MAX_STEPS; step++) {
            int i = nextAt[step - 1];
            if (i >= instructionCount) {
                return;
            }
            executeStep(step, i);
            stepCount = step;
            if (opOf[i] == HALT) {
                return;
            }
        }
    }

    private void executeStep(int step, int i) {
        int before = (step - 1) * PLACES;
        int after = step * PLACES;
        for (int place = 0; place < PLACES; place++) {
            valueAt[after + place] = valueAt[before + place];
        }
        int target = placeWritten(i, before);
        writtenBy[step] = target;
        if (target != NOWHERE) {
            valueAt[after + target] = valueWritten(i, before);
        }
        nextAt[step] = instructionAfter(i, before);
    }

    private int placeWritten(int i, int before) {
        switch (opOf[i]) {
            case SET:
            case ADD:
            case SUB:
            case MUL:
            case FETCH:
                return xOf[i];
            case PUT:
                return cellNamedBy(yOf[i], before);
            default:
                return NOWHERE;
        }
    }

    private int valueWritten(int i, int before) {
        int x = xOf[i];
        int y = yOf[i];
        int z = zOf[i];
        switch (opOf[i]) {
            case SET:
                return y;
            case ADD:
                return valueAt[before + y] + valueAt[before + z];
            case SUB:
                return valueAt[before + y] - valueAt[before + z];
            case MUL:
                return valueAt[before + y] * valueAt[before + z];
            case FETCH:
                return valueAt[before + cellNamedBy(y, before)];
            default:
                // Only PUT is left: nobody asks for the value of an instruction that writes nothing.
                return valueAt[before + x];
        }
    }

    private int cellNamedBy(int v, int before) {
        return FIRST_CELL + (valueAt[before + v] & CELL_MASK);
    }

    private int instructionAfter(int i, int before) {
        switch (opOf[i]) {
            case IFPOS:
                return valueAt[before + xOf[i]] > 0 ? yOf[i] : i + 1;
            case GOTO:
                return xOf[i];
            case HALT:
                return i;
            default:
                return i + 1;
        }
    }
}
