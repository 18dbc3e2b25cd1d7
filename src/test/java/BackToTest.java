/** Promise 11. */
public final class BackToTest {
    private static final Check check = new Check();

    public static void main(String[] args) {
        theLatestEarlierTime();
        thisTimeIsNotEarlier();
        theFirstTimeIsEarlier();
        instructionsThatAreNotThere();
        noneAndTheDebuggerStays();
        outsideIsBad();
        check.end();
    }

    /** "Goes back to the latest earlier time at which ... next is i ... Else answers the new time." */
    private static void theLatestEarlierTime() {
        TraceDebugger d = Programs.countdownAt(10);
        check.due("backTo(1)", d.backTo(1), 5);
        check.due("time() after it", d.time(), 5);
        check.due("variable(1) after it", d.variable(1), 2);
        check.due("cell(1) after it", d.cell(1), 0);
        check.due("backTo(1), the next earlier one", d.backTo(1), 1);
        check.due("time() after it", d.time(), 1);
    }

    private static void thisTimeIsNotEarlier() {
        check.due("backTo(5), before the HALT", Programs.countdownAt(10).backTo(5), 9);
        check.refused("backTo(5) at time 9", () -> Programs.countdownAt(9), d -> d.backTo(5), TraceDebugger.NONE);
        check.due("backTo(0) where it is next always", Programs.at(200, Programs.endless()).backTo(0), 199);
    }

    private static void theFirstTimeIsEarlier() {
        check.due("backTo(0) from time 10", Programs.countdownAt(10).backTo(0), 0);
        check.due("backTo(0) from time 1", Programs.countdownAt(1).backTo(0), 0);
        check.due("backTo(0) from time 200", Programs.at(200, Programs.after199Steps("HALT")).backTo(0), 0);
    }

    /** No time before the last has a next instruction that is not there, and this time is not earlier. */
    private static void instructionsThatAreNotThere() {
        check.refused("backTo(19) after GOTO 19", () -> Programs.at(1, Programs.of("GOTO 19")),
            d -> d.backTo(19), TraceDebugger.NONE);
    }

    /** "there is none: NONE, and the debugger stays" */
    private static void noneAndTheDebuggerStays() {
        for (int i : new int[] {5, 6, 19}) {
            check.refused("backTo(" + i + ")", () -> Programs.countdownAt(7), d -> d.backTo(i), TraceDebugger.NONE);
        }
        for (int i = 0; i <= 19; i++) {
            int number = i;
            check.refused("backTo(" + i + ") at time 0", () -> Programs.countdown(2), d -> d.backTo(number),
                TraceDebugger.NONE);
        }
        check.refused("backTo(1) at time 1", () -> Programs.countdownAt(1), d -> d.backTo(1), TraceDebugger.NONE);
    }

    /** "i outside 0..19: BAD" */
    private static void outsideIsBad() {
        for (int i : new int[] {-1, 20, 21, Programs.SMALLEST, Programs.LARGEST}) {
            check.refused("backTo(" + i + ")", () -> Programs.countdownAt(7), d -> d.backTo(i), TraceDebugger.BAD);
        }
        check.refused("backTo(20), though 20 is next", () -> Programs.at(20, Programs.full()), d -> d.backTo(20),
            TraceDebugger.BAD);
    }
}
