import java.io.IOException;
import java.nio.file.Files;
import java.nio.file.Path;
import java.util.List;

/** LANGUAGE.md: the source keeps to the rules, and a source that broke one would be found. */
public final class LanguageTest {
    private static final Path SOURCE = Path.of("src/main/java/TraceDebugger.java");

    private static String source = "";
    private static int wrong = 0;

    public static void main(String[] args) throws IOException {
        source = Files.readString(SOURCE);
        for (String breach : LanguageRules.breaches(source)) {
            wrong("breaks rule " + breach);
        }
        oneClass();
        types();
        noLibrary();
        arrays();
        staticFields();
        ruledOutStatements();
        loops();
        calls();
        if (wrong != 0) {
            System.exit(1);
        }
    }

    private static void oneClass() throws IOException {
        found(1, "package p;\n" + source);
        found(1, source + "final class Other { }");
        foundWith(1, "private static final class Nested { }");
        foundWith(1, "private enum Nested { A }");
        foundWith(1, "private record Nested(int a) { }");
        foundWith(1, "private interface Nested { }");
    }

    private static void types() throws IOException {
        foundWith(2, "private double f = 0;");
        foundWith(2, "private int f() { return (int) (float) now; }");
        foundWith(2, "private int f() { return (int) (now * 0.5); }");
        foundWith(2, "private String f;");
        foundWith(2, "private int f() { var n = now; return n; }");
        foundWith(2, "private void f(Integer n) { }");
        foundWith(2, "private final int[][] f = new int[2];");
    }

    private static void noLibrary() throws IOException {
        found(3, "import java.util.Arrays;\n" + source);
        foundWith(3, "private int f() { return Math.abs(now); }");
        foundWith(3, "private int f() { return Integer.MAX_VALUE; }");
        foundWith(3, "private int f() { return hashCode(); }");
    }

    private static void arrays() throws IOException {
        foundWith(4, "private final int[] f = {1, 2};");
        foundWith(4, "private final int[] f = new int[] {1, 2};");
        foundWith(4, "private final int[] f = new int[TIMES + 1];");
        foundWith(4, "private final int[] f = new int[now];");
        foundWith(4, "private final int[] f = new int[0];");
        foundWith(4, "private int[] f = new int[TIMES];");
        foundWith(4, "private int[] f() { return nextAt; }");
        foundWith(4, "private int f() { int[] copy = nextAt; return copy[0]; }");
        foundWith(4, "private int f() { return (new int[2])[0]; }");
        foundWith(4, "private boolean f() { return nextAt == writtenBy; }");
        foundWith(4, "private boolean f() { return now == null; }");
        foundWith(4, "private void f() { new TraceDebugger(); }");
    }

    private static void staticFields() throws IOException {
        foundWith(5, "private static int made = 0;");
        foundWith(5, "private static final int[] TABLE = new int[2];");
        foundWith(5, "private static final int LATE;");
        foundWith(5, "static { }");
    }

    private static void ruledOutStatements() throws IOException {
        foundWith(6, "private void f() { throw now; }");
        foundWith(6, "private void f() { try { now = 0; } finally { now = 1; } }");
        foundWith(6, "private void f() { synchronized (now) { now = 0; } }");
        foundWith(6, "private synchronized void f() { }");
        foundWith(6, "private void f() throws Exception { }");
        foundWith(6, "private void f() { assert now == 0; }");
        foundWith(6, "private boolean f() { return now instanceof Object; }");
        foundWith(6, "private void f() { now = () -> 1; }");
        foundWith(6, "private void f() { now = TraceDebugger::time; }");
        foundWith(6, "private int f() { return (Object) now; }");
        foundWith(7, "private int f() { return now / stepCount; }");
        foundWith(7, "private void f() { now %= stepCount; }");
    }

    private static void loops() throws IOException {
        foundWith(8, "private void f() { while (now > 0) { now--; } }");
        foundWith(8, "private void f() { do { now--; } while (now > 0); }");
        foundWith(8, "private void f() { for (int n : nextAt) { now--; } }");
        foundWith(8, "private void f() { for (;;) { now--; } }");
        foundWith(8, "private void f() { for (now = 0; now < 9; now++) { execute(); } }");
        foundWith(8, "private void f() { for (int i = 0; now < 9; now++) { execute(); } }");
        foundWith(8, "private void f() { for (int i = 0; i < goTo(i); i++) { } }");
        foundWith(8, "private void f() { for (int i = 0; i < 9; i--) { now--; } }");
        foundWith(8, "private void f() { for (int i = 9; i > 0; i++) { now--; } }");
        foundWith(8, "private void f() { for (int i = 0; i != 9; i++) { now--; } }");
        foundWith(8, "private void f() { for (int i = 0; i < 9; now++) { now--; } }");
        foundWith(8, "private void f() { for (int i = 0; i < 9; i++) { i = 0; } }");
        foundWith(8, "private void f() { for (int i = 0; i < 9; i++) { i -= 2; } }");
        foundWith(8, "private void f() { for (int i = 0; i < now; i++) { now++; } }");
    }

    private static void calls() throws IOException {
        foundWith(8, "private void f() { f(); }");
        foundWith(8, "private void f() { g(); } private void g() { f(); }");
        foundWith(10, "private boolean f() { return isCell(cellNamedBy(0, 0)); }");
        foundWith(10, "private boolean f() { return isCell(1 + cellNamedBy(0, 0)); }");
        foundWith(10, "private void f() { g(); } private void g() { h(); } private void h() { execute(); }");
        foundWith(10, "private void f() {" + "\n".repeat(60) + "}");
    }

    private static void foundWith(int rule, String member) throws IOException {
        found(rule, source.substring(0, source.lastIndexOf('}')) + member + "\n}\n");
    }

    /** It may break other rules as well: an array of arrays, say, breaks two. */
    private static void found(int rule, String broken) throws IOException {
        List<String> breaches = LanguageRules.breaches(broken);
        if (breaches.stream().noneMatch(breach -> breach.startsWith(rule + ":"))) {
            wrong("no breach of rule " + rule + " is found, only " + breaches + ", in a source with\n"
                + broken.substring(broken.length() - 120));
        }
    }

    private static void wrong(String what) {
        wrong++;
        System.out.println(SOURCE + " " + what);
    }
}
