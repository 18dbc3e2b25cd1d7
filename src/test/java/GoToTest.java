/** Promise 5. */
public final class GoToTest {
    private static final Check check = new Check();

    public static void main(String[] args) {
        everyTime();
        theFirstAndTheLastTime();
        outsideIsBad();
        outsideWithoutAProgram();
        outsideOfTheLongestExecution();
        timesOfAnEarlierExecution();
        check.end();
    }

    /** "Goes to time t ... answers the number of the instruction that is next then." */
    private static void everyTime() {
        int[] next = {0, 1, 2, 3, 4, 1, 2, 3, 4, 5, 5};
        TraceDebugger d = Programs.countdown(2);
        for (int t = 0; t <= 10; t++) {
            check.due("goTo(" + t + ")", d.goTo(t), next[t]);
            check.due("time() then", d.time(), t);
        }
        for (int t = 10; t >= 0; t--) {
            check.due("goTo(" + t + ") backwards", d.goTo(t), next[t]);
            check.due("goTo(" + t + ") again", d.goTo(t), next[t]);
        }
    }

    private static void theFirstAndTheLastTime() {
        TraceDebugger d = Programs.after199Steps("SET 1 1");
        check.due("goTo(200), the last time there can be", d.goTo(200), 4);
        check.due("time() then", d.time(), 200);
        check.due("goTo(0)", d.goTo(0), 0);
        check.due("time() then", d.time(), 0);
    }

    /** "t outside 0..T: BAD, and the debugger stays." */
    private static void outsideIsBad() {
        for (int t : new int[] {-1, 11, 12, 200, 201, Programs.SMALLEST, Programs.LARGEST}) {
            for (int from : new int[] {0, 7, 10}) {
                check.refused("goTo(" + t + ")", () -> Programs.countdownAt(from), d -> d.goTo(t),
                    TraceDebugger.BAD);
            }
        }
    }

    private static void outsideWithoutAProgram() {
        check.refused("goTo(1)", TraceDebugger::new, d -> d.goTo(1), TraceDebugger.BAD);
        check.refused("goTo(-1)", TraceDebugger::new, d -> d.goTo(-1), TraceDebugger.BAD);
    }

    private static void outsideOfTheLongestExecution() {
        check.refused("goTo(201)", () -> Programs.at(200, Programs.endless()), d -> d.goTo(201),
            TraceDebugger.BAD);
    }

    private static void timesOfAnEarlierExecution() {
        TraceDebugger d = Programs.countdown(5);
        d.goTo(22);
        d.input(2);
        check.due("goTo(11) of 10 after 22 steps", d.goTo(11), TraceDebugger.BAD);
        check.due("goTo(22) of 10 after 22 steps", d.goTo(22), TraceDebugger.BAD);
        check.due("time() after them", d.time(), 0);
    }
}
