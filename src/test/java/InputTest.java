/** Promise 3. */
public final class InputTest {
    public static void main(String[] args) {
        Check check = new Check();
        TraceDebugger d = Programs.countdownAt(7);
        check.due("input(5)", d.input(5), 22);
        check.due("time() after it", d.time(), 0);
        check.due("variable(5) after it", d.variable(5), 5);
        check.due("variable(0) after it", d.variable(0), 0);
        check.due("cell(2) after it", d.cell(2), 0);
        check.due("goTo(22)", d.goTo(22), 5);
        check.due("variable(1), the sum", d.variable(1), 15);

        check.due("input(5) again", d.input(5), 22);
        check.due("time() after the same input", d.time(), 0);
        check.due("input(0)", d.input(0), 6);
        check.due("cell(0) at time 0", d.cell(0), 0);
        check.due("goTo(6)", d.goTo(6), 5);
        check.due("cell(5), of an earlier execution", d.cell(5), 0);
        check.due("input(100)", d.input(100), 200);
        for (int value : new int[] {Integer.MIN_VALUE, -1, 1, Integer.MAX_VALUE}) {
            d.input(value);
            check.due("variable(5) with input " + value, d.variable(5), value);
        }

        TraceDebugger empty = new TraceDebugger();
        check.due("input(9) without a program", empty.input(9), 0);
        check.due("variable(5) without a program", empty.variable(5), 9);
        empty.emit(TraceDebugger.ADD, 0, 5, 5);
        empty.goTo(1);
        check.due("variable(0), with the input from before", empty.variable(0), 18);
        check.end();
    }
}
