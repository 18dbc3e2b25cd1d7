/** Promise 3. */
public final class InputTest {
    private static final Check check = new Check();

    public static void main(String[] args) {
        setsTheInput();
        theInputStays();
        goesToTimeZero();
        nothingIsLeftOfTheExecutionBefore();
        answersTheNumberOfSteps();
        check.end();
    }

    /** "Sets the input": any int. */
    private static void setsTheInput() {
        TraceDebugger d = Programs.countdown(2);
        for (int value : new int[] {Programs.SMALLEST, -1, 0, 1, Programs.LARGEST}) {
            d.input(value);
            check.due("variable(5) with input " + value, d.variable(5), value);
        }
        d.input(5);
        d.goTo(22);
        check.due("variable(1), the sum", d.variable(1), 15);
    }

    /** It is the object's, so that later programs begin with it, too. */
    private static void theInputStays() {
        TraceDebugger d = new TraceDebugger();
        d.input(9);
        check.due("variable(5) without a program", d.variable(5), 9);
        Programs.emit(d, "ADD 5 5 5");
        check.due("variable(5) with a program", d.variable(5), 9);
        d.goTo(1);
        check.due("variable(5) after ADD", d.variable(5), 18);
        Programs.emit(d, "HALT");
        check.due("variable(5) at time 0 again", d.variable(5), 9);
    }

    /** "the debugger is at time 0 of the execution with it" */
    private static void goesToTimeZero() {
        TraceDebugger d = Programs.countdownAt(7);
        d.input(5);
        check.due("time() after input(5)", d.time(), 0);
        d.goTo(3);
        d.input(5);
        check.due("time() after the same input", d.time(), 0);
        d.goTo(22);
        d.input(0);
        check.due("time() after an input with less steps", d.time(), 0);
    }

    private static void nothingIsLeftOfTheExecutionBefore() {
        TraceDebugger d = Programs.countdown(5);
        d.goTo(22);
        d.input(0);
        for (int t = 0; t <= 6; t++) {
            d.goTo(t);
            check.due("cell(5) at time " + t, d.cell(5), 0);
            check.due("cell(0) at time " + t, d.cell(0), t >= 2 ? 1 : 0);
            check.due("lastWrite(1, 5) at time " + t, d.lastWrite(1, 5), 0);
        }
        check.due("goTo(7)", d.goTo(7), TraceDebugger.BAD);
        TraceDebugger first = Programs.of("PUT 5 5");
        first.input(1);
        first.input(2);
        first.goTo(1);
        check.due("cell(1), written by step 1 before", first.cell(1), 0);
        check.due("cell(2), written by step 1 now", first.cell(2), 2);
    }

    /** "Answers T.": from 0 to 200 */
    private static void answersTheNumberOfSteps() {
        check.due("input(9) without a program", new TraceDebugger().input(9), 0);
        TraceDebugger d = Programs.countdown(2);
        check.due("input(5)", d.input(5), 22);
        check.due("input(0)", d.input(0), 6);
        check.due("input(1)", d.input(1), 6);
        check.due("input(-1)", d.input(-1), 6);
        // SUB wraps around to the largest number, which takes for ever to count down.
        check.due("input(smallest)", d.input(Programs.SMALLEST), 200);
        check.due("input(49)", d.input(49), 198);
        check.due("input(50)", d.input(50), 200);
        check.due("input(largest)", d.input(Programs.LARGEST), 200);
    }
}
