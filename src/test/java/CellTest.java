/** Promise 8. */
public final class CellTest {
    private static final Check check = new Check();

    public static void main(String[] args) {
        everyTime();
        theFirstAndTheLastCell();
        outsideIsZero();
        check.end();
    }

    /** "A cell's value in the state at this time" */
    private static void everyTime() {
        TraceDebugger d = Programs.countdown(2);
        for (int t = 10; t >= 0; t--) {
            d.goTo(t);
            String there = " at time " + t;
            check.due("cell(0)" + there, d.cell(0), 0);
            check.due("cell(1)" + there, d.cell(1), t >= 6 ? 1 : 0);
            check.due("cell(2)" + there, d.cell(2), t >= 2 ? 1 : 0);
            check.due("cell(3)" + there, d.cell(3), 0);
        }
    }

    private static void theFirstAndTheLastCell() {
        check.due("cell(0)", Programs.filled().cell(0), 100);
        for (int c = 1; c <= 7; c++) {
            check.due("cell(" + c + ")", Programs.filled().cell(c), c);
        }
    }

    /** "0 for c outside 0..7": also where nothing around it is 0, and never by way of & 7. */
    private static void outsideIsZero() {
        for (int c : new int[] {-1, 8, 9, 13, 14, 15, -6, -7, -8, -14, Programs.SMALLEST, Programs.LARGEST}) {
            for (int t = 30; t <= 36; t++) {
                check.refused("cell(" + c + ") at time " + t, Programs.filledAt(t), d -> d.cell(c), 0);
            }
            check.due("cell(" + c + ") of a new object", new TraceDebugger().cell(c), 0);
        }
    }
}
