import java.util.function.ToIntFunction;

/** Promise 13. */
public final class OrderAndLimitsTest {
    private static final int[] OUTSIDE_INSTRUCTIONS = {-1, 20, Programs.SMALLEST, Programs.LARGEST};
    private static final int[] OUTSIDE_VARIABLES = {-1, 6, Programs.SMALLEST, Programs.LARGEST};

    private static final Check check = new Check();

    public static void main(String[] args) {
        runToBadBeforeNone();
        backToBadBeforeNone();
        backBeforeWriteBadBeforeNone();
        for (int time = 0; time <= 10; time++) {
            wrongNumbersChangeNothing(time);
            whatIsNotThereChangesNothing(time);
        }
        limitsChangeNothing();
        afterARefusedCallAllGoesOn();
        check.end();
    }

    /** "BAD is tested before NONE": without a program every search finds nothing, so the order decides. */
    private static void runToBadBeforeNone() {
        for (int i : OUTSIDE_INSTRUCTIONS) {
            check.due("runTo(" + i + ")", new TraceDebugger().runTo(i), TraceDebugger.BAD);
        }
    }

    private static void backToBadBeforeNone() {
        for (int i : OUTSIDE_INSTRUCTIONS) {
            check.due("backTo(" + i + ")", new TraceDebugger().backTo(i), TraceDebugger.BAD);
        }
    }

    private static void backBeforeWriteBadBeforeNone() {
        for (int v : OUTSIDE_VARIABLES) {
            check.due("backBeforeWrite(" + v + ")", new TraceDebugger().backBeforeWrite(v), TraceDebugger.BAD);
        }
    }

    /** "A call that is refused, because a number is not as said there ... changes nothing." */
    private static void wrongNumbersChangeNothing(int time) {
        refused(time, "emit(9, 0, 0, 0)", d -> d.emit(9, 0, 0, 0), TraceDebugger.BAD);
        refused(time, "emit SET 6 1", d -> Programs.emit(d, "SET 6 1"), TraceDebugger.BAD);
        refused(time, "emit FETCH 0 6", d -> Programs.emit(d, "FETCH 0 6"), TraceDebugger.BAD);
        refused(time, "emit ADD 0 0 6", d -> Programs.emit(d, "ADD 0 0 6"), TraceDebugger.BAD);
        refused(time, "emit IFPOS 0 20", d -> Programs.emit(d, "IFPOS 0 20"), TraceDebugger.BAD);
        refused(time, "emit GOTO 20", d -> Programs.emit(d, "GOTO 20"), TraceDebugger.BAD);
        refused(time, "goTo(-1)", d -> d.goTo(-1), TraceDebugger.BAD);
        refused(time, "goTo(11)", d -> d.goTo(11), TraceDebugger.BAD);
        refused(time, "variable(6)", d -> d.variable(6), 0);
        refused(time, "cell(8)", d -> d.cell(8), 0);
        refused(time, "lastWrite(2, 0)", d -> d.lastWrite(2, 0), TraceDebugger.BAD);
        refused(time, "lastWrite(0, 6)", d -> d.lastWrite(0, 6), TraceDebugger.BAD);
        refused(time, "lastWrite(1, 8)", d -> d.lastWrite(1, 8), TraceDebugger.BAD);
        refused(time, "runTo(20)", d -> d.runTo(20), TraceDebugger.BAD);
        refused(time, "backTo(20)", d -> d.backTo(20), TraceDebugger.BAD);
        refused(time, "backBeforeWrite(6)", d -> d.backBeforeWrite(6), TraceDebugger.BAD);
    }

    /** "... something is not there ..." */
    private static void whatIsNotThereChangesNothing(int time) {
        refused(time, "runTo(19)", d -> d.runTo(19), TraceDebugger.NONE);
        refused(time, "backTo(19)", d -> d.backTo(19), TraceDebugger.NONE);
        refused(time, "backBeforeWrite(3)", d -> d.backBeforeWrite(3), TraceDebugger.NONE);
    }

    /** "... or a limit is reached" */
    private static void limitsChangeNothing() {
        for (int time = 0; time <= 20; time++) {
            int from = time;
            check.refused("emit when full, at time " + time, () -> Programs.at(from, Programs.full()),
                d -> Programs.emit(d, "SET 0 1"), TraceDebugger.FULL);
        }
    }

    private static void afterARefusedCallAllGoesOn() {
        TraceDebugger d = Programs.of("SET 0 1");
        Programs.emit(d, "SET 6 1");
        check.due("emit after a refused one", Programs.emit(d, "SET 1 2"), 2);
        check.due("steps() after it", d.steps(), 2);
        d.goTo(3);
        check.due("goTo after a refused one", d.goTo(2), 2);
        d.runTo(9);
        check.due("backTo after a refused runTo", d.backTo(1), 1);
        d.backBeforeWrite(1);
        check.due("runTo after a refused backBeforeWrite", d.runTo(2), 2);
    }

    private static void refused(int time, String call, ToIntFunction<TraceDebugger> run, int want) {
        check.refused("at time " + time + ", " + call, () -> Programs.countdownAt(time), run, want);
    }
}
