/** Promise 10. */
public final class RunToTest {
    private static final Check check = new Check();

    public static void main(String[] args) {
        theNextLaterTime();
        thisTimeIsNotLater();
        theLastTimeIsLater();
        instructionsThatAreNotThere();
        noneAndTheDebuggerStays();
        timesOfAnEarlierExecution();
        outsideIsBad();
        check.end();
    }

    /** "Goes on to the next later time at which ... next is i ... Else answers the new time." */
    private static void theNextLaterTime() {
        TraceDebugger d = Programs.countdown(2);
        check.due("runTo(1)", d.runTo(1), 1);
        check.due("time() after it", d.time(), 1);
        check.due("runTo(1), the next later one", d.runTo(1), 5);
        check.due("time() after it", d.time(), 5);
        check.due("variable(1) after it", d.variable(1), 2);
        check.due("cell(2) after it", d.cell(2), 1);
    }

    private static void thisTimeIsNotLater() {
        check.refused("runTo(0) at time 0", () -> Programs.countdown(2), d -> d.runTo(0), TraceDebugger.NONE);
        check.due("runTo(0) where it is next always", Programs.endless().runTo(0), 1);
    }

    private static void theLastTimeIsLater() {
        TraceDebugger d = Programs.countdownAt(5);
        check.due("runTo(5), before the HALT", d.runTo(5), 9);
        check.due("runTo(5), after the HALT", d.runTo(5), 10);
        check.due("runTo(5), no more", d.runTo(5), TraceDebugger.NONE);
        check.due("runTo(0), to time 200", Programs.at(199, Programs.endless()).runTo(0), 200);
        check.due("runTo(4), from time 0 to 200", Programs.after199Steps("SET 1 1").runTo(4), 200);
    }

    /** The number that is next counts, whether there is such an instruction or not. */
    private static void instructionsThatAreNotThere() {
        check.due("runTo(19) after GOTO 19", Programs.of("GOTO 19").runTo(19), 1);
        check.due("runTo(1), behind the end", Programs.of("SET 0 1").runTo(1), 1);
        check.due("runTo(19), behind 19 instructions", Programs.times(19, "SET 0 1").runTo(19), 19);
    }

    /** "there is none: NONE, and the debugger stays" */
    private static void noneAndTheDebuggerStays() {
        for (int i : new int[] {0, 6, 19}) {
            check.refused("runTo(" + i + ")", () -> Programs.countdownAt(7), d -> d.runTo(i), TraceDebugger.NONE);
        }
        for (int i = 0; i <= 19; i++) {
            int number = i;
            check.refused("runTo(" + i + ") at the end", () -> Programs.countdownAt(10), d -> d.runTo(number),
                TraceDebugger.NONE);
        }
        check.refused("runTo(0) at time 200", () -> Programs.at(200, Programs.endless()), d -> d.runTo(0),
            TraceDebugger.NONE);
        check.refused("runTo(5), broken off before it", () -> Programs.after199Steps("SET 1 1", "SET 1 2"),
            d -> d.runTo(5), TraceDebugger.NONE);
    }

    private static void timesOfAnEarlierExecution() {
        TraceDebugger d = Programs.countdown(5);
        d.input(2);
        d.goTo(5);
        check.due("runTo(1), only in an earlier execution", d.runTo(1), TraceDebugger.NONE);
    }

    /** "i outside 0..19: BAD" */
    private static void outsideIsBad() {
        for (int i : new int[] {-1, 20, 21, Programs.SMALLEST, Programs.LARGEST}) {
            check.refused("runTo(" + i + ")", () -> Programs.countdownAt(7), d -> d.runTo(i), TraceDebugger.BAD);
        }
        check.refused("runTo(20), though 20 is next later", Programs::full, d -> d.runTo(20), TraceDebugger.BAD);
    }
}
