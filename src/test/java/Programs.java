import java.util.Arrays;
import java.util.List;
import java.util.function.Supplier;

/** Programs that the tests debug. */
final class Programs {
    static final int SMALLEST = Integer.MIN_VALUE;
    static final int LARGEST = Integer.MAX_VALUE;

    private static final List<String> OPS =
        Arrays.asList("SET", "ADD", "SUB", "MUL", "FETCH", "PUT", "IFPOS", "GOTO", "HALT");

    private Programs() {
    }

    /** A debugger of the instructions, each written as in the document; operands left away are 0. */
    static TraceDebugger of(String... instructions) {
        TraceDebugger d = new TraceDebugger();
        for (String instruction : instructions) {
            emit(d, instruction);
        }
        return d;
    }

    static int emit(TraceDebugger d, String instruction) {
        String[] words = instruction.split(" ");
        int[] operands = new int[3];
        for (int i = 1; i < words.length; i++) {
            operands[i - 1] = Integer.parseInt(words[i]);
        }
        return d.emit(OPS.indexOf(words[0]), operands[0], operands[1], operands[2]);
    }

    /** The same instruction so many times. */
    static TraceDebugger times(int count, String instruction) {
        TraceDebugger d = new TraceDebugger();
        for (int i = 0; i < count; i++) {
            emit(d, instruction);
        }
        return d;
    }

    static TraceDebugger at(int time, TraceDebugger d) {
        d.goTo(time);
        return d;
    }

    /**
     * Counts variable 5 down to 0, sums it up in variable 1 and marks the cell of each count.
     * With input 2 it takes 10 steps:
     *
     * <pre>
     * time   0  1  2  3  4  5  6  7  8  9 10
     * next   0  1  2  3  4  1  2  3  4  5  5
     * wrote    v0 c2 v1 v5  - c1 v1 v5  -  -
     * v1     0  0  0  2  2  2  2  3  3  3  3
     * v5     2  2  2  2  1  1  1  1  0  0  0
     * </pre>
     */
    static TraceDebugger countdown(int input) {
        TraceDebugger d = of("SET 0 1", "PUT 0 5", "ADD 1 1 5", "SUB 5 5 0", "IFPOS 5 1", "HALT");
        d.input(input);
        return d;
    }

    static TraceDebugger countdownAt(int time) {
        return at(time, countdown(2));
    }

    /**
     * From time 30 to the last one, 36, no variable and no cell is 0. At the end variable v is 20 + v,
     * cell 0 is 100, and each other cell is its own number.
     */
    static TraceDebugger filled() {
        TraceDebugger d = of("SET 0 1", "PUT 5 5", "SUB 5 5 0", "IFPOS 5 1", "SET 1 100", "PUT 1 5");
        for (int first = 10; first <= 20; first += 10) {
            for (int v = 0; v <= 5; v++) {
                emit(d, "SET " + v + " " + (first + v));
            }
        }
        return at(d.input(7), d);
    }

    static Supplier<TraceDebugger> filledAt(int time) {
        return () -> at(time, filled());
    }

    /** 199 steps, after which instruction 3 is next, and then the instructions that are given. */
    static TraceDebugger after199Steps(String... instructions) {
        TraceDebugger d = of("SET 0 1", "SUB 5 5 0", "IFPOS 5 1");
        for (String instruction : instructions) {
            emit(d, instruction);
        }
        d.input(99);
        return d;
    }

    /** As many instructions as there may be, executed one after the other. */
    static TraceDebugger full() {
        TraceDebugger d = times(20, "ADD 0 0 5");
        d.input(1);
        return d;
    }

    /** Instruction 0 for ever: broken off after 200 steps. */
    static TraceDebugger endless() {
        return of("GOTO 0");
    }
}
