/** 'Terms': how an execution begins, goes on and ends, and the state at each time. */
public final class ExecutionTest {
    private static final Check check = new Check();

    public static void main(String[] args) {
        theNextNumberIsNext();
        endsWithoutAnInstruction();
        anInstructionThatIsThereIsNoEnd();
        beginsAnew();
        stepsAreNumberedFromOne();
        haltIsAStep();
        brokenOffAfter200Steps();
        theStateAfter200Steps();
        statesFromFirstToLast();
        nextAfterHalt();
        nextWithoutAnInstruction();
        check.end();
    }

    /** "Where nothing else is said the instruction with the next number is next" */
    private static void theNextNumberIsNext() {
        TraceDebugger d = Programs.of("SET 0 0", "ADD 0 0 0", "SUB 0 0 0", "MUL 0 0 0", "FETCH 0 0", "PUT 0 0",
            "IFPOS 0 0", "HALT");
        for (int t = 0; t <= 7; t++) {
            check.due("goTo(" + t + ") without a jump", d.goTo(t), t);
        }
    }

    /** "the execution ends, too, when there is no instruction with the number that is next" */
    private static void endsWithoutAnInstruction() {
        check.due("steps() of no instructions", new TraceDebugger().steps(), 0);
        check.due("steps() of one instruction", Programs.of("SET 0 1").steps(), 1);
        check.due("steps() of 20 instructions", Programs.full().steps(), 20);
        check.due("steps(), GOTO just behind the end", Programs.of("GOTO 2", "HALT").steps(), 1);
        check.due("steps(), GOTO 19", Programs.of("GOTO 19", "HALT").steps(), 1);
        TraceDebugger jump = Programs.of("IFPOS 5 19", "HALT");
        check.due("input(1), IFPOS 5 19", jump.input(1), 1);
        check.due("input(0), IFPOS 5 19", jump.input(0), 2);
    }

    private static void anInstructionThatIsThereIsNoEnd() {
        check.due("steps(), GOTO the last instruction", Programs.of("GOTO 2", "HALT", "SET 0 1").steps(), 2);
        TraceDebugger d = Programs.times(19, "GOTO 19");
        check.due("steps(), GOTO 19, which is not there", d.steps(), 1);
        Programs.emit(d, "SET 0 1");
        check.due("steps(), GOTO 19, which is there", d.steps(), 2);
    }

    /** "begins with all variables 0 but variable 5, which is the INPUT, all cells 0, and instruction 0 next" */
    private static void beginsAnew() {
        TraceDebugger d = Programs.of("SET 0 1", "PUT 0 5", "SUB 5 5 0", "IFPOS 5 1", "PUT 0 5");
        for (int v = 0; v <= 5; v++) {
            Programs.emit(d, "SET " + v + " 9");
        }
        d.goTo(d.input(7));
        check.due("input(-3)", d.input(-3), 11);
        atTheBeginning(d, "input", -3);
        d.goTo(d.input(7));
        Programs.emit(d, "HALT");
        atTheBeginning(d, "emit", 7);
    }

    private static void atTheBeginning(TraceDebugger d, String call, int input) {
        for (int v = 0; v <= 4; v++) {
            check.due("variable(" + v + ") after " + call, d.variable(v), 0);
        }
        check.due("variable(5) after " + call, d.variable(5), input);
        for (int c = 0; c <= 7; c++) {
            check.due("cell(" + c + ") after " + call, d.cell(c), 0);
        }
        check.due("goTo(0) after " + call, d.goTo(0), 0);
    }

    /** "a series of STEPS, numbered from 1, each of which executes one instruction" */
    private static void stepsAreNumberedFromOne() {
        TraceDebugger d = Programs.of("SET 0 1", "SET 1 1");
        check.due("steps() of two", d.steps(), 2);
        d.goTo(2);
        check.due("lastWrite(0, 0), by the first step", d.lastWrite(0, 0), 1);
        check.due("lastWrite(0, 1), by the second step", d.lastWrite(0, 1), 2);
    }

    /** "a HALT is a step, too, and the last one" */
    private static void haltIsAStep() {
        check.due("steps() of HALT alone", Programs.of("HALT").steps(), 1);
        check.due("steps() of HALT before others", Programs.of("HALT", "SET 0 1").steps(), 1);
        check.due("steps() of HALT behind others", Programs.of("SET 0 1", "SET 0 2", "HALT").steps(), 3);
        check.due("goTo() behind the HALT", Programs.of("HALT", "SET 0 1").goTo(2), TraceDebugger.BAD);
    }

    /** "it is broken off after 200 steps" */
    private static void brokenOffAfter200Steps() {
        check.due("steps(), 199 to the end", Programs.after199Steps().steps(), 199);
        check.due("steps(), 200 to the end", Programs.after199Steps("SET 1 1").steps(), 200);
        check.due("steps(), 200 with the HALT", Programs.after199Steps("HALT").steps(), 200);
        check.due("steps(), 201 to the end", Programs.after199Steps("SET 1 1", "SET 2 1").steps(), 200);
        check.due("steps(), 201 with the HALT", Programs.after199Steps("SET 1 1", "HALT").steps(), 200);
        check.due("steps() without an end", Programs.endless().steps(), 200);
    }

    private static void theStateAfter200Steps() {
        TraceDebugger d = Programs.after199Steps("SET 1 1", "SET 2 1");
        check.due("goTo(200), broken off", d.goTo(200), 4);
        check.due("variable(1), written by step 200", d.variable(1), 1);
        check.due("lastWrite(0, 1), by step 200", d.lastWrite(0, 1), 200);
        check.due("variable(2), never written", d.variable(2), 0);
        check.due("lastWrite(0, 2), never written", d.lastWrite(0, 2), 0);
        check.due("goTo(199)", d.goTo(199), 3);
        check.due("variable(1) before step 200", d.variable(1), 0);
        TraceDebugger cells = Programs.after199Steps("PUT 0 0");
        cells.goTo(200);
        check.due("cell(1), written by step 200", cells.cell(1), 1);
        check.due("lastWrite(1, 1), by step 200", cells.lastWrite(1, 1), 200);
    }

    /** "For a time t from 0 to T the STATE at time t is what the first t steps leave" */
    private static void statesFromFirstToLast() {
        TraceDebugger d = Programs.of("SET 0 1", "SET 0 2", "SET 0 3");
        for (int t = 0; t <= 3; t++) {
            check.due("goTo(" + t + ") of three steps", d.goTo(t), t);
            check.due("variable(0) at time " + t, d.variable(0), t);
        }
    }

    /** "after a HALT the HALT's own number" */
    private static void nextAfterHalt() {
        check.due("next after a HALT at 0", Programs.of("HALT", "SET 0 1").goTo(1), 0);
        check.due("next after a HALT at 1", Programs.of("SET 0 1", "HALT", "SET 0 2").goTo(2), 1);
        check.due("next after a HALT at the end", Programs.of("SET 0 1", "HALT").goTo(2), 1);
        check.due("next after a HALT as step 200", Programs.after199Steps("HALT").goTo(200), 3);
        check.due("next when broken off before a HALT", Programs.after199Steps("SET 1 1", "HALT").goTo(200), 4);
        TraceDebugger last = Programs.times(19, "SET 0 1");
        Programs.emit(last, "HALT");
        check.due("next after a HALT at 19", last.goTo(20), 19);
    }

    /** "when the execution has ended because there is no instruction ..., that number all the same" */
    private static void nextWithoutAnInstruction() {
        check.due("next without instructions", new TraceDebugger().goTo(0), 0);
        check.due("next after one instruction", Programs.of("SET 0 1").goTo(1), 1);
        check.due("next after 19 instructions", Programs.times(19, "SET 0 1").goTo(19), 19);
        check.due("next after 20 instructions", Programs.times(20, "SET 0 1").goTo(20), 20);
        check.due("next after step 200 to the end", Programs.after199Steps("SET 1 1").goTo(200), 4);
        check.due("next after GOTO 2", Programs.of("GOTO 2", "HALT").goTo(1), 2);
        check.due("next after GOTO 19", Programs.of("GOTO 19").goTo(1), 19);
        TraceDebugger jump = Programs.of("IFPOS 5 19");
        jump.input(1);
        check.due("next after IFPOS to 19", jump.goTo(1), 19);
    }
}
