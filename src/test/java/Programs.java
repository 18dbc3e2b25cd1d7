/** Programs that several tests debug. */
final class Programs {
    private Programs() {
    }

    /**
     * Counts variable 5 down to 0, sums it up in variable 1 and marks the cell of each count.
     * With input 2 it takes 10 steps:
     *
     * <pre>
     * time   0  1  2  3  4  5  6  7  8  9 10
     * next   0  1  2  3  4  1  2  3  4  5  5
     * wrote    v0 c2 v1 v5  - c1 v1 v5  -  -
     * v1     0  0  0  2  2  2  2  3  3  3  3
     * v5     2  2  2  2  1  1  1  1  0  0  0
     * </pre>
     */
    static TraceDebugger countdown(int input) {
        TraceDebugger d = new TraceDebugger();
        d.emit(TraceDebugger.SET, 0, 1, 0);
        d.emit(TraceDebugger.PUT, 0, 5, 0);
        d.emit(TraceDebugger.ADD, 1, 1, 5);
        d.emit(TraceDebugger.SUB, 5, 5, 0);
        d.emit(TraceDebugger.IFPOS, 5, 1, 0);
        d.emit(TraceDebugger.HALT, 0, 0, 0);
        d.input(input);
        return d;
    }

    static TraceDebugger countdownAt(int time) {
        TraceDebugger d = countdown(2);
        d.goTo(time);
        return d;
    }

    /** As many instructions as there may be; instruction 0 ends the execution at once. */
    static TraceDebugger full() {
        TraceDebugger d = new TraceDebugger();
        for (int i = 0; i < 20; i++) {
            d.emit(TraceDebugger.HALT, 0, 0, 0);
        }
        return d;
    }

    /** Instruction 0 for ever: broken off after 200 steps. */
    static TraceDebugger endless() {
        TraceDebugger d = new TraceDebugger();
        d.emit(TraceDebugger.GOTO, 0, 0, 0);
        return d;
    }
}
