/** Promise 9. */
public final class LastWriteTest {
    private static final Check check = new Check();

    public static void main(String[] args) {
        everyTime();
        writesThatChangeNothing();
        whatWritesAndWhatDoesNot();
        wrongNumbers();
        check.end();
    }

    private static void everyTime() {
        int[] zero = {0, 1, 1, 1, 1, 1, 1, 1, 1, 1, 1};
        int[] sum = {0, 0, 0, 3, 3, 3, 3, 7, 7, 7, 7};
        int[] count = {0, 0, 0, 0, 4, 4, 4, 4, 8, 8, 8};
        TraceDebugger d = Programs.countdown(2);
        for (int t = 10; t >= 0; t--) {
            d.goTo(t);
            String there = " at time " + t;
            check.due("lastWrite(0, 0)" + there, d.lastWrite(0, 0), zero[t]);
            check.due("lastWrite(0, 1)" + there, d.lastWrite(0, 1), sum[t]);
            check.due("lastWrite(0, 2)" + there, d.lastWrite(0, 2), 0);
            check.due("lastWrite(0, 5)" + there, d.lastWrite(0, 5), count[t]);
            check.due("lastWrite(1, 0)" + there, d.lastWrite(1, 0), 0);
            check.due("lastWrite(1, 1)" + there, d.lastWrite(1, 1), t >= 6 ? 6 : 0);
            check.due("lastWrite(1, 2)" + there, d.lastWrite(1, 2), t >= 2 ? 2 : 0);
            check.due("time() after the questions", d.time(), t);
        }
    }

    private static void writesThatChangeNothing() {
        TraceDebugger d = new TraceDebugger();
        d.emit(TraceDebugger.SET, 0, 0, 0);
        d.emit(TraceDebugger.ADD, 0, 0, 0);
        d.emit(TraceDebugger.SUB, 1, 0, 0);
        d.emit(TraceDebugger.MUL, 2, 0, 0);
        d.emit(TraceDebugger.FETCH, 3, 0, 0);
        d.emit(TraceDebugger.PUT, 0, 4, 0);
        d.goTo(6);
        check.due("lastWrite(0, 0) of ADD", d.lastWrite(0, 0), 2);
        check.due("lastWrite(0, 1) of SUB", d.lastWrite(0, 1), 3);
        check.due("lastWrite(0, 2) of MUL", d.lastWrite(0, 2), 4);
        check.due("lastWrite(0, 3) of FETCH", d.lastWrite(0, 3), 5);
        check.due("lastWrite(1, 0) of PUT", d.lastWrite(1, 0), 6);
        d.goTo(1);
        check.due("lastWrite(0, 0) of SET", d.lastWrite(0, 0), 1);
    }

    private static void whatWritesAndWhatDoesNot() {
        TraceDebugger d = new TraceDebugger();
        d.emit(TraceDebugger.PUT, 2, 5, 0);
        d.emit(TraceDebugger.IFPOS, 2, 0, 0);
        d.emit(TraceDebugger.GOTO, 3, 0, 0);
        d.emit(TraceDebugger.HALT, 2, 2, 2);
        d.input(-1);
        d.goTo(4);
        for (int v = 0; v < 6; v++) {
            check.due("lastWrite(0, " + v + ") of no write", d.lastWrite(0, v), 0);
        }
        for (int c = 0; c < 7; c++) {
            check.due("lastWrite(1, " + c + ") of no write", d.lastWrite(1, c), 0);
        }
        check.due("lastWrite(1, 7), the cell of -1", d.lastWrite(1, 7), 1);
    }

    private static void wrongNumbers() {
        for (int o : new int[] {-1, 2, 3, Integer.MIN_VALUE, Integer.MAX_VALUE}) {
            bad(o, 0);
        }
        for (int o : new int[] {-1, 6, 7, 8, Integer.MIN_VALUE, Integer.MAX_VALUE}) {
            bad(0, o);
        }
        for (int o : new int[] {-6, -1, 8, Integer.MIN_VALUE, Integer.MAX_VALUE}) {
            bad(1, o);
        }
        bad(2, 8);
        TraceDebugger d = Programs.countdown(2);
        check.due("lastWrite(0, 5), the last variable", d.lastWrite(0, 5), 0);
        check.due("lastWrite(1, 7), the last cell", d.lastWrite(1, 7), 0);
    }

    private static void bad(int what, int v) {
        check.refused("lastWrite(" + what + ", " + v + ")", () -> Programs.countdownAt(7),
            d -> d.lastWrite(what, v), TraceDebugger.BAD);
    }
}
