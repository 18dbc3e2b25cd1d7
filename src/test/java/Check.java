import java.util.function.Supplier;
import java.util.function.ToIntFunction;

/** Counts and prints the answers that are not as due. */
final class Check {
    private int wrong = 0;

    void due(String call, int got, int want) {
        if (got != want) {
            wrong++;
            System.out.println(call + " answered " + got + ", due is " + want);
        }
    }

    /** The call must answer as due and leave the object as if the call had not been. */
    void refused(String call, Supplier<TraceDebugger> maker, ToIntFunction<TraceDebugger> run, int want) {
        String after = "after " + call + ": ";
        TraceDebugger untouched = maker.get();
        TraceDebugger touched = maker.get();
        due(call, run.applyAsInt(touched), want);
        due(after + "time()", touched.time(), untouched.time());
        due(after + "steps()", touched.steps(), untouched.steps());
        sameState(after, touched, untouched);
        sameProgram(after, touched, untouched);
        int steps = maker.get().steps();
        for (int t = 0; t <= steps; t++) {
            // New objects for each time, or it would take more than the 512 calls of one.
            touched = maker.get();
            run.applyAsInt(touched);
            sameAt(t, after, touched, maker.get());
        }
    }

    private void sameAt(int t, String after, TraceDebugger touched, TraceDebugger untouched) {
        String there = after + "goTo(" + t + ")";
        due(there, touched.goTo(t), untouched.goTo(t));
        sameState(there + ", ", touched, untouched);
    }

    private void sameState(String where, TraceDebugger touched, TraceDebugger untouched) {
        for (int v = 0; v < 6; v++) {
            due(where + "variable(" + v + ")", touched.variable(v), untouched.variable(v));
            due(where + "lastWrite(0, " + v + ")", touched.lastWrite(0, v), untouched.lastWrite(0, v));
        }
        for (int c = 0; c < 8; c++) {
            due(where + "cell(" + c + ")", touched.cell(c), untouched.cell(c));
            due(where + "lastWrite(1, " + c + ")", touched.lastWrite(1, c), untouched.lastWrite(1, c));
        }
    }

    /** How many instructions there are, and what the input is, shows when the program is executed anew. */
    private void sameProgram(String after, TraceDebugger touched, TraceDebugger untouched) {
        due(after + "emit(HALT)", Programs.emit(touched, "HALT"), Programs.emit(untouched, "HALT"));
        due(after + "emit(HALT), steps()", touched.steps(), untouched.steps());
        sameState(after + "emit(HALT), ", touched, untouched);
    }

    void end() {
        if (wrong != 0) {
            System.out.println(wrong + " answers are not as due");
            System.exit(1);
        }
    }
}
