/** All promises: runs of up to 512 calls, always the same ones, each answer compared with the model's. */
public final class ManyRunsTest {
    private static final int RUNS = 2000;
    private static final int MOST_CALLS = 512;
    private static final int[] ODD = {-1, 6, 8, 20, 200, 201, Integer.MIN_VALUE, Integer.MAX_VALUE};

    private static final Check check = new Check();
    private static long seed = 20261115L;

    public static void main(String[] args) {
        for (int run = 0; run < RUNS; run++) {
            run(run, 1 + below(21));
        }
        check.end();
    }

    private static void run(int run, int length) {
        TraceDebugger d = new TraceDebugger();
        Model m = new Model();
        for (int call = 0; call < MOST_CALLS; call++) {
            String where = "run " + run + ", call " + call + ": ";
            if (call < length) {
                emit(where, d, m);
            } else {
                anyCall(where, d, m);
            }
        }
    }

    private static void anyCall(String where, TraceDebugger d, Model m) {
        int n;
        switch (below(32)) {
            case 0:
                emit(where, d, m);
                break;
            case 1:
                n = number();
                check.due(where + "input(" + n + ")", d.input(n), m.input(n));
                break;
            case 2:
                check.due(where + "steps()", d.steps(), m.steps());
                break;
            case 3: case 4: case 5: case 6: case 7:
                n = upTo(m.steps());
                check.due(where + "goTo(" + n + ")", d.goTo(n), m.goTo(n));
                break;
            case 8: case 9:
                check.due(where + "time()", d.time(), m.time());
                break;
            case 10: case 11: case 12: case 13:
                n = upTo(5);
                check.due(where + "variable(" + n + ")", d.variable(n), m.variable(n));
                break;
            case 14: case 15: case 16: case 17:
                n = upTo(7);
                check.due(where + "cell(" + n + ")", d.cell(n), m.cell(n));
                break;
            case 18: case 19: case 20: case 21: case 22:
                int what = upTo(1);
                n = upTo(7);
                check.due(where + "lastWrite(" + what + ", " + n + ")", d.lastWrite(what, n), m.lastWrite(what, n));
                break;
            case 23: case 24: case 25:
                n = upTo(19);
                check.due(where + "runTo(" + n + ")", d.runTo(n), m.runTo(n));
                break;
            case 26: case 27: case 28:
                n = upTo(19);
                check.due(where + "backTo(" + n + ")", d.backTo(n), m.backTo(n));
                break;
            default:
                n = upTo(5);
                check.due(where + "backBeforeWrite(" + n + ")", d.backBeforeWrite(n), m.backBeforeWrite(n));
                break;
        }
    }

    private static void emit(String where, TraceDebugger d, Model m) {
        int op = upTo(TraceDebugger.HALT);
        // Fewer HALTs, or hardly an execution would become long.
        if (op == TraceDebugger.HALT && below(4) != 0) {
            op = TraceDebugger.IFPOS;
        }
        int x = upTo(op == TraceDebugger.GOTO ? 19 : 5);
        int y = op == TraceDebugger.SET ? number() : upTo(op == TraceDebugger.IFPOS ? 19 : 5);
        int z = upTo(5);
        String call = "emit(" + op + ", " + x + ", " + y + ", " + z + ")";
        check.due(where + call, d.emit(op, x, y, z), m.emit(op, x, y, z));
    }

    private static int number() {
        int kind = below(4);
        return kind == 0 ? (int) draw() : kind == 1 ? ODD[below(ODD.length)] : below(20) - 5;
    }

    /** Mostly from 0 to the last one, and now and then a number that is not expected. */
    private static int upTo(int last) {
        int kind = below(24);
        return kind == 0 ? ODD[below(ODD.length)] : kind == 1 ? last + 1 : below(last + 1);
    }

    private static int below(int bound) {
        return (int) ((draw() >>> 1) % bound);
    }

    /** Numbers that look drawn by chance but are the same in every run of the test. */
    private static long draw() {
        seed ^= seed << 13;
        seed ^= seed >>> 7;
        seed ^= seed << 17;
        return seed;
    }
}
