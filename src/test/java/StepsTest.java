/** Promise 4. */
public final class StepsTest {
    private static final Check check = new Check();

    public static void main(String[] args) {
        theFewest();
        theMost();
        theSameAtEveryTime();
        ofTheLatestExecution();
        check.end();
    }

    private static void theFewest() {
        check.due("steps() without a program", new TraceDebugger().steps(), 0);
        check.due("steps() of HALT", Programs.of("HALT").steps(), 1);
        check.due("steps() of GOTO 19", Programs.of("GOTO 19").steps(), 1);
    }

    private static void theMost() {
        check.due("steps(), the last but one", Programs.after199Steps().steps(), 199);
        check.due("steps(), the last", Programs.after199Steps("HALT").steps(), 200);
        check.due("steps(), one more", Programs.after199Steps("SET 1 1", "HALT").steps(), 200);
        check.due("steps() of an endless program", Programs.endless().steps(), 200);
    }

    private static void theSameAtEveryTime() {
        for (int t = 0; t <= 10; t++) {
            check.due("steps() at time " + t, Programs.countdownAt(t).steps(), 10);
        }
    }

    private static void ofTheLatestExecution() {
        TraceDebugger d = Programs.countdown(5);
        check.due("steps() with input 5", d.steps(), 22);
        d.input(2);
        check.due("steps() with input 2", d.steps(), 10);
        Programs.emit(d, "HALT");
        check.due("steps() with one instruction more", d.steps(), 10);
    }
}
