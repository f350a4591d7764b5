import java.io.IOException;
import java.util.List;

/** Small classes that each break one rule of LANGUAGE.md: a check that let them pass would prove nothing. */
public final class RulesTest {
    private static final Checks c = new Checks();

    public static void main(String[] args) throws IOException {
        keptRulesAreNotReported();
        rule1OneClass();
        rule2Types();
        rule3NoLibrary();
        rule4Arrays();
        rule5StaticFields();
        rule6NoExceptions();
        rule7Divisors();
        rule8Loops();
        rule8Recursion();
        rule10Sizes();
        c.end();
    }

    private static String withMembers(String members) {
        return "public final class WalkerPlan { private static final int N = 3; private final int[] a = new int[N];"
            + " private int n; " + members + "}";
    }

    private static String withBody(String body) {
        return withMembers("private int f(int x) { " + body + " return x; }");
    }

    private static void kept(String source) throws IOException {
        for (String row : Rules.broken(source)) {
            c.due(row + " in " + source, true, false);
        }
    }

    private static void breaks(int rule, String source) throws IOException {
        List<String> rows = Rules.broken(source);
        boolean seen = rows.stream().anyMatch(row -> row.matches("rule " + rule + "\\b.*"));
        c.due("rule " + rule + " is among " + rows + " for " + source, seen, true);
    }

    private static void keptRulesAreNotReported() throws IOException {
        c.part("rules that are kept");
        kept(withBody(""));
        kept(withBody("for (int i = 0; i < N; i++) { a[i] = x; }"));
        kept(withBody("for (int i = 0; i <= x; ++i) { n += i; }"));
        kept(withBody("switch (x) { case 0: n = 1; break; default: n = 2; }"));
        kept(withBody("long y = (long) x; n = y > 3L ? -x : ~x;"));
        kept(withMembers("private int g(int x) { return x; } public int f() { int i = 0; i++; return g(n) + g(i); }"));
        kept(withMembers("private void g() { int i = 0; i++; } private void f() { for (int i = 0; i < n; i++) { g(); } }"));
    }

    private static void rule1OneClass() throws IOException {
        c.part("rule 1");
        breaks(1, "package p; " + withBody(""));
        breaks(1, withMembers("private class B { }"));
        breaks(1, withMembers("private static class B { }"));
        breaks(1, withMembers("private interface B { }"));
        breaks(1, withMembers("private enum B { C }"));
        breaks(1, withMembers("private record B(int x) { }"));
        breaks(1, withBody("") + " final class B { }");
    }

    private static void rule2Types() throws IOException {
        c.part("rule 2");
        for (String type : new String[] {"float", "double", "String", "Integer", "int[][]", "double[]"}) {
            breaks(2, withBody(type + " y;"));
            breaks(2, withMembers("private void f(" + type + " y) { }"));
        }
        breaks(2, withBody("var y = 1;"));
        breaks(2, withMembers("private String s;"));
        breaks(2, withMembers("private double f() { return n; }"));
        breaks(2, withBody("n = \"a\" == \"b\" ? 1 : 2;"));
        breaks(2, withBody("n = (int) 1.5;"));
    }

    private static void rule3NoLibrary() throws IOException {
        c.part("rule 3");
        breaks(3, "import java.util.List; " + withBody(""));
        breaks(3, withBody("n = Math.abs(x);"));
        breaks(3, withBody("System.out.println(x);"));
        breaks(3, withBody("n = Integer.MAX_VALUE;"));
        breaks(3, withBody("n = hashCode();"));
        breaks(3, withBody("getClass();"));
    }

    private static void rule4Arrays() throws IOException {
        c.part("rule 4");
        breaks(4, withMembers("private final int[] b = new int[0];"));
        breaks(4, withMembers("private final int[] b = new int[-1];"));
        breaks(4, withMembers("private final int[] b = new int[2 + 2];"));
        breaks(4, withMembers("private final int[] b = {1, 2};"));
        breaks(4, withMembers("private final int[] b = new int[] {1, 2};"));
        breaks(4, withMembers("private final int[] b = a;"));
        breaks(4, withMembers("private int[] b;"));
        breaks(4, withMembers("private int m = 4; private final int[] b = new int[m];"));
        breaks(4, withMembers("private int[] f() { return a; }"));
        breaks(4, withBody("int[] b = new int[3];"));
        breaks(4, withBody("a = new int[3];"));
        breaks(4, withBody("n = a == a ? 1 : 0;"));
        breaks(4, withBody("n = a != null ? 1 : 0;"));
        breaks(4, withBody("new WalkerPlan();"));
    }

    private static void rule5StaticFields() throws IOException {
        c.part("rule 5");
        breaks(5, withMembers("private static int m = 1;"));
        breaks(5, withMembers("private static final boolean M = true;"));
        breaks(5, withMembers("private static final int M;"));
        breaks(5, withMembers("private static final int[] M = new int[3];"));
        breaks(5, withMembers("static { }"));
    }

    private static void rule6NoExceptions() throws IOException {
        c.part("rule 6");
        breaks(6, withBody("throw null;"));
        breaks(6, withBody("try { n = 1; } finally { n = 2; }"));
        breaks(6, withBody("synchronized (this) { n = 1; }"));
        breaks(6, withBody("assert x > 0;"));
        breaks(6, withBody("n = this instanceof Object ? 1 : 0;"));
        breaks(6, withBody("Runnable r = () -> { };"));
        breaks(6, withBody("Runnable r = this::notify;"));
        breaks(6, withBody("n = ((Object) this) == this ? 1 : 0;"));
        breaks(6, withMembers("private void f() throws Exception { }"));
    }

    private static void rule7Divisors() throws IOException {
        c.part("rule 7");
        breaks(7, withBody("n = 3 / x;"));
        breaks(7, withBody("n = 3 % x;"));
        breaks(7, withBody("n /= x;"));
        breaks(7, withBody("n %= x;"));
    }

    private static void rule8Loops() throws IOException {
        c.part("rule 8, loops");
        breaks(8, withBody("while (n < 3) { n++; }"));
        breaks(8, withBody("do { n++; } while (n < 3);"));
        breaks(8, withBody("for (;;) { }"));
        breaks(8, withBody("for (int i = 0; i < 3;) { }"));
        breaks(8, withBody("for (int i = 0; n < 3; i++) { }"));
        breaks(8, withBody("for (int i = 0; i < 3; n++) { }"));
        breaks(8, withBody("for (int i = 0; i < 3; i--) { }"));
        breaks(8, withBody("for (int i = 0; i != 3; i++) { }"));
        breaks(8, withBody("for (int i = 0; i < 3; i++) { i = 0; }"));
        breaks(8, withBody("for (int i = 0; i < 3; i++) { i--; }"));
        breaks(8, withBody("for (int i = 0; i < 3; i++) { i -= 1; }"));
        breaks(8, withBody("for (int i = 0; i < n; i++) { n++; }"));
        breaks(8, withBody("for (int i = 0; i < n + 1; i++) { }"));
        breaks(8, withMembers("private void h() { n++; } private void g() { h(); }"
            + " private void f() { for (int i = 0; i < n; i++) { g(); } }"));
    }

    private static void rule8Recursion() throws IOException {
        c.part("rule 8, recursion");
        breaks(8, withMembers("private void f() { f(); }"));
        breaks(8, withMembers("private void f() { g(); } private void g() { h(); } private void h() { f(); }"));
    }

    /** The methods f0, f1 and so on, each of which calls the next. */
    private static String chain(int methods) {
        StringBuilder text = new StringBuilder();
        for (int k = 0; k < methods; k++) {
            String call = k + 1 < methods ? "f" + (k + 1) + "(); " : "";
            text.append("private void f").append(k).append("() { ").append(call).append("} ");
        }
        return text.toString();
    }

    private static void rule10Sizes() throws IOException {
        c.part("rule 10");
        kept(withMembers("private void f(int a0, int a1, int a2, int a3, int a4, int a5, int a6) { }"));
        breaks(10, withMembers("private void f(int a0, int a1, int a2, int a3, int a4, int a5, int a6, int a7) { }"));
        kept(withMembers(chain(6)));
        breaks(10, withMembers(chain(7)));
        breaks(10, withMembers("private int g(int x) { return x; } private int f() { return g(g(1)); }"));
        breaks(10, withMembers("private int g(int x) { return x; } private int f() { return g(1 + a[g(1)]); }"));
        kept(withBody("\n".repeat(59)));
        breaks(10, withBody("\n".repeat(60)));
        kept(withMembers(fields(38)));
        breaks(10, withMembers(fields(39)));
    }

    private static String fields(int count) {
        StringBuilder text = new StringBuilder();
        for (int k = 0; k < count; k++) {
            text.append("private int n").append(k).append("; ");
        }
        return text.toString();
    }
}
