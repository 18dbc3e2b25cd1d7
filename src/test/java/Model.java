import java.util.ArrayList;
import java.util.List;

/**
 * The document once more, written to be plainly right: nothing of the execution is kept,
 * every question executes the program anew from its beginning.
 */
final class Model {
    private final List<int[]> program = new ArrayList<>();
    private int input = 0;
    private int time = 0;

    /** What the first steps leave, and what the last of them did. */
    private static final class State {
        final int[] variables = new int[6];
        final int[] cells = new int[8];
        int next = 0;
        boolean halted = false;
        int wroteVariable = -1;
        int wroteCell = -1;
    }

    private boolean ended(State s) {
        return s.halted || s.next >= program.size();
    }

    private void step(State s) {
        int[] i = program.get(s.next);
        int[] v = s.variables;
        s.wroteVariable = -1;
        s.wroteCell = -1;
        if (i[0] == TraceDebugger.HALT) {
            s.halted = true;
            return;
        }
        s.next++;
        if (i[0] == TraceDebugger.GOTO) {
            s.next = i[1];
        } else if (i[0] == TraceDebugger.IFPOS) {
            s.next = v[i[1]] > 0 ? i[2] : s.next;
        } else if (i[0] == TraceDebugger.PUT) {
            s.wroteCell = Math.floorMod(v[i[2]], 8);
            s.cells[s.wroteCell] = v[i[1]];
        } else {
            s.wroteVariable = i[1];
            v[i[1]] = result(i, s);
        }
    }

    private static int result(int[] i, State s) {
        int[] v = s.variables;
        switch (i[0]) {
            case TraceDebugger.SET: return i[2];
            case TraceDebugger.ADD: return (int) ((long) v[i[2]] + v[i[3]]);
            case TraceDebugger.SUB: return (int) ((long) v[i[2]] - v[i[3]]);
            case TraceDebugger.MUL: return (int) ((long) v[i[2]] * v[i[3]]);
            case TraceDebugger.FETCH: return s.cells[Math.floorMod(v[i[2]], 8)];
            default: throw new IllegalStateException("op " + i[0]);
        }
    }

    private State stateAt(int t) {
        State s = new State();
        s.variables[5] = input;
        for (int step = 1; step <= t; step++) {
            step(s);
        }
        return s;
    }

    int steps() {
        State s = stateAt(0);
        int steps = 0;
        while (steps < 200 && !ended(s)) {
            step(s);
            steps++;
        }
        return steps;
    }

    int emit(int op, int x, int y, int z) {
        if (program.size() == 20) {
            return TraceDebugger.FULL;
        }
        if (op < 0 || op > 8) {
            return TraceDebugger.BAD;
        }
        boolean first = op != TraceDebugger.GOTO && op != TraceDebugger.HALT;
        boolean three = op == TraceDebugger.ADD || op == TraceDebugger.SUB || op == TraceDebugger.MUL;
        boolean two = three || op == TraceDebugger.FETCH || op == TraceDebugger.PUT;
        if (first && outside(x, 5) || two && outside(y, 5) || three && outside(z, 5)
            || op == TraceDebugger.IFPOS && outside(y, 19) || op == TraceDebugger.GOTO && outside(x, 19)) {
            return TraceDebugger.BAD;
        }
        program.add(new int[] {op, x, y, z});
        time = 0;
        return program.size();
    }

    int input(int value) {
        input = value;
        time = 0;
        return steps();
    }

    int goTo(int t) {
        if (outside(t, steps())) {
            return TraceDebugger.BAD;
        }
        time = t;
        return stateAt(t).next;
    }

    int time() {
        return time;
    }

    int variable(int v) {
        return outside(v, 5) ? 0 : stateAt(time).variables[v];
    }

    int cell(int c) {
        return outside(c, 7) ? 0 : stateAt(time).cells[c];
    }

    int lastWrite(int what, int v) {
        if (outside(what, 1) || outside(v, what == 0 ? 5 : 7)) {
            return TraceDebugger.BAD;
        }
        int latest = 0;
        State s = stateAt(0);
        for (int step = 1; step <= time; step++) {
            step(s);
            if ((what == 0 ? s.wroteVariable : s.wroteCell) == v) {
                latest = step;
            }
        }
        return latest;
    }

    int runTo(int i) {
        return outside(i, 19) ? TraceDebugger.BAD : search(i, 1);
    }

    int backTo(int i) {
        return outside(i, 19) ? TraceDebugger.BAD : search(i, -1);
    }

    private int search(int i, int direction) {
        int steps = steps();
        for (int t = time + direction; t >= 0 && t <= steps; t += direction) {
            if (stateAt(t).next == i) {
                time = t;
                return t;
            }
        }
        return TraceDebugger.NONE;
    }

    int backBeforeWrite(int v) {
        if (outside(v, 5)) {
            return TraceDebugger.BAD;
        }
        int step = lastWrite(0, v);
        if (step == 0) {
            return TraceDebugger.NONE;
        }
        time = step - 1;
        return time;
    }

    private static boolean outside(int n, int last) {
        return n < 0 || n > last;
    }
}
