/** 'Terms': what a program is and what each of its instructions does. */
public final class ProgramTest {
    private static final int SMALLEST = Programs.SMALLEST;
    private static final int LARGEST = Programs.LARGEST;
    private static final Check check = new Check();

    public static void main(String[] args) {
        upToTwentyInstructionsNumberedFromZero();
        sixVariables();
        eightCells();
        allInts();
        additionWraps();
        subtractionWraps();
        multiplicationWraps();
        cellNumbersAreMasked();
        ifPositive();
        goTo();
        haltEndsTheExecution();
        readsComeBeforeTheWrite();
        check.end();
    }

    /** "A program is a list of up to 20 instructions, numbered from 0" */
    private static void upToTwentyInstructionsNumberedFromZero() {
        TraceDebugger d = Programs.of("GOTO 19");
        for (int i = 1; i <= 18; i++) {
            Programs.emit(d, "HALT");
        }
        Programs.emit(d, "SET 0 7");
        check.due("goTo(1), after instruction 0", d.goTo(1), 19);
        check.due("goTo(2), after instruction 19", d.goTo(2), 20);
        check.due("variable(0), set by instruction 19", d.variable(0), 7);
    }

    /** "on 6 variables (0 to 5)": each can be every operand and none is another one. */
    private static void sixVariables() {
        TraceDebugger d = new TraceDebugger();
        for (int v = 0; v <= 5; v++) {
            Programs.emit(d, "SET " + v + " " + (10 + v));
        }
        for (int v = 0; v <= 5; v++) {
            Programs.emit(d, "ADD " + v + " " + v + " " + (5 - v));
        }
        d.goTo(6);
        for (int v = 0; v <= 5; v++) {
            check.due("variable(" + v + ") after the SETs", d.variable(v), 10 + v);
        }
        int[] sums = {25, 25, 25, 38, 39, 40};
        d.goTo(12);
        for (int v = 0; v <= 5; v++) {
            check.due("variable(" + v + ") after the ADDs", d.variable(v), sums[v]);
        }
    }

    /** "and 8 cells (0 to 7)": none is another one. */
    private static void eightCells() {
        TraceDebugger d = Programs.filled();
        check.due("cell(0)", d.cell(0), 100);
        for (int c = 1; c <= 7; c++) {
            check.due("cell(" + c + ")", d.cell(c), c);
        }
    }

    /** "all ints" */
    private static void allInts() {
        for (int n : new int[] {SMALLEST, -1, 0, 1, LARGEST}) {
            TraceDebugger d = Programs.of("SET 0 " + n, "PUT 0 1", "FETCH 2 1", "PUT 5 2");
            d.input(n);
            d.goTo(3);
            check.due("variable(0), SET to " + n, d.variable(0), n);
            check.due("cell(0), PUT there " + n, d.cell(0), n);
            check.due("variable(2), FETCH of " + n, d.variable(2), n);
            check.due("variable(5), input " + n, d.variable(5), n);
        }
    }

    /** "ADD v a b: variable v becomes variable a + variable b", "arithmetic wraps as in Java" */
    private static void additionWraps() {
        arithmetic("ADD", 3, 4, 7);
        arithmetic("ADD", LARGEST, 0, LARGEST);
        arithmetic("ADD", LARGEST, 1, SMALLEST);
        arithmetic("ADD", 1, LARGEST, SMALLEST);
        arithmetic("ADD", LARGEST, LARGEST, -2);
        arithmetic("ADD", SMALLEST, -1, LARGEST);
        arithmetic("ADD", SMALLEST, SMALLEST, 0);
        arithmetic("ADD", SMALLEST, LARGEST, -1);
    }

    /** "SUB: a - b", "arithmetic wraps as in Java" */
    private static void subtractionWraps() {
        arithmetic("SUB", 3, 4, -1);
        arithmetic("SUB", SMALLEST, 0, SMALLEST);
        arithmetic("SUB", SMALLEST, 1, LARGEST);
        arithmetic("SUB", LARGEST, -1, SMALLEST);
        arithmetic("SUB", 0, SMALLEST, SMALLEST);
        arithmetic("SUB", -2, LARGEST, LARGEST);
        arithmetic("SUB", LARGEST, SMALLEST, -1);
        arithmetic("SUB", SMALLEST, LARGEST, 1);
    }

    /** "MUL: a * b", "arithmetic wraps as in Java" */
    private static void multiplicationWraps() {
        arithmetic("MUL", 3, -4, -12);
        arithmetic("MUL", 46340, 46340, 2147395600);
        arithmetic("MUL", 46341, 46341, -2147479015);
        arithmetic("MUL", 65536, 32768, SMALLEST);
        arithmetic("MUL", 65536, 65536, 0);
        arithmetic("MUL", SMALLEST, -1, SMALLEST);
        arithmetic("MUL", LARGEST, LARGEST, 1);
        arithmetic("MUL", LARGEST, 2, -2);
        arithmetic("MUL", SMALLEST, SMALLEST, 0);
    }

    private static void arithmetic(String op, int a, int b, int due) {
        TraceDebugger d = Programs.of("SET 0 " + a, "SET 1 " + b, op + " 2 0 1");
        d.goTo(3);
        check.due(op + " of " + a + " and " + b, d.variable(2), due);
    }

    /** "cell number (variable a) & 7", of FETCH and of PUT */
    private static void cellNumbersAreMasked() {
        cellOf(0, 0);
        cellOf(6, 6);
        cellOf(7, 7);
        cellOf(8, 0);
        cellOf(9, 1);
        cellOf(15, 7);
        cellOf(16, 0);
        cellOf(-1, 7);
        cellOf(-7, 1);
        cellOf(-8, 0);
        cellOf(-9, 7);
        cellOf(LARGEST, 7);
        cellOf(SMALLEST, 0);
    }

    private static void cellOf(int number, int due) {
        TraceDebugger put = Programs.of("SET 0 77", "PUT 0 5");
        put.input(number);
        put.goTo(2);
        TraceDebugger fetch = Programs.of("SET 0 77", "SET 1 " + due, "PUT 0 1", "FETCH 2 5");
        fetch.input(number);
        fetch.goTo(4);
        check.due("FETCH from " + number, fetch.variable(2), 77);
        for (int c = 0; c <= 7; c++) {
            check.due("cell(" + c + ") after PUT to " + number, put.cell(c), c == due ? 77 : 0);
        }
    }

    /** "IFPOS v t: if variable v is greater than 0, instruction t is next" */
    private static void ifPositive() {
        nextAfterIfPositive(SMALLEST, 1);
        nextAfterIfPositive(-1, 1);
        nextAfterIfPositive(0, 1);
        nextAfterIfPositive(1, 7);
        nextAfterIfPositive(LARGEST, 7);
        TraceDebugger itself = Programs.of("IFPOS 5 0");
        check.due("input(1), IFPOS to itself", itself.input(1), 200);
        check.due("next after IFPOS to itself", itself.goTo(1), 0);
    }

    private static void nextAfterIfPositive(int a, int due) {
        TraceDebugger d = Programs.of("IFPOS 5 7");
        d.input(a);
        check.due("next after IFPOS of " + a, d.goTo(1), due);
        check.due("variable(5) after IFPOS of " + a, d.variable(5), a);
    }

    /** "GOTO t: instruction t is next": forwards, backwards, and to itself. */
    private static void goTo() {
        TraceDebugger d = Programs.of("GOTO 2", "GOTO 1", "GOTO 0");
        check.due("goTo(1), after GOTO 2", d.goTo(1), 2);
        check.due("goTo(2), after GOTO 0", d.goTo(2), 0);
        check.due("goTo(1), after GOTO to itself", Programs.endless().goTo(1), 0);
        check.due("goTo(1), after GOTO 19", Programs.of("GOTO 19").goTo(1), 19);
    }

    /** "HALT ends the execution" */
    private static void haltEndsTheExecution() {
        TraceDebugger d = Programs.of("SET 0 1", "HALT", "SET 0 2");
        check.due("steps() with a HALT", d.steps(), 2);
        d.goTo(2);
        check.due("variable(0), not set behind the HALT", d.variable(0), 1);
    }

    private static void readsComeBeforeTheWrite() {
        TraceDebugger d = Programs.of("ADD 5 5 5", "PUT 5 5", "MUL 5 5 5", "SET 5 14", "FETCH 5 5", "SUB 5 5 5");
        d.input(3);
        int[] due = {3, 6, 6, 36, 14, 6, 0};
        for (int t = 0; t < due.length; t++) {
            d.goTo(t);
            check.due("variable(5) at time " + t, d.variable(5), due[t]);
        }
    }
}
