import java.util.function.Supplier;
import java.util.function.ToIntFunction;

/** Counts and prints the answers that are not as due. */
final class Check {
    private int wrong = 0;

    void due(String call, int got, int want) {
        if (got != want) {
            wrong++;
            System.out.println(call + " answered " + got + ", due is " + want);
        }
    }

    /** The call must answer as due and leave the object as if the call had not been. */
    void refused(String call, Supplier<TraceDebugger> maker, ToIntFunction<TraceDebugger> run, int want) {
        TraceDebugger touched = maker.get();
        TraceDebugger untouched = maker.get();
        due(call, run.applyAsInt(touched), want);
        same(call, touched, untouched);
    }

    /** For executions of at most 12 steps, or it would take more than the 512 calls of an object. */
    private void same(String call, TraceDebugger touched, TraceDebugger untouched) {
        String after = "after " + call + ": ";
        due(after + "time()", touched.time(), untouched.time());
        due(after + "steps()", touched.steps(), untouched.steps());
        sameState(after, touched, untouched);
        int steps = untouched.steps();
        for (int t = 0; t <= steps; t++) {
            String there = after + "goTo(" + t + ")";
            due(there, touched.goTo(t), untouched.goTo(t));
            sameState(there + ", ", touched, untouched);
        }
        due(after + "emit(HALT)", emitHalt(touched), emitHalt(untouched));
        due(after + "emit(HALT), steps()", touched.steps(), untouched.steps());
    }

    private void sameState(String where, TraceDebugger touched, TraceDebugger untouched) {
        for (int v = 0; v < 6; v++) {
            due(where + "variable(" + v + ")", touched.variable(v), untouched.variable(v));
            due(where + "lastWrite(0, " + v + ")", touched.lastWrite(0, v), untouched.lastWrite(0, v));
        }
        for (int c = 0; c < 8; c++) {
            due(where + "cell(" + c + ")", touched.cell(c), untouched.cell(c));
            due(where + "lastWrite(1, " + c + ")", touched.lastWrite(1, c), untouched.lastWrite(1, c));
        }
    }

    private static int emitHalt(TraceDebugger d) {
        return d.emit(TraceDebugger.HALT, 0, 0, 0);
    }

    void end() {
        if (wrong != 0) {
            System.out.println(wrong + " answers are not as due");
            System.exit(1);
        }
    }
}
