import java.io.IOException;
import java.nio.file.Files;
import java.nio.file.Path;
import java.util.List;

/** The class keeps to LANGUAGE.md, as far as LanguageRules sees; and LanguageRules sees what breaks it. */
public final class LanguageTest {
    private static final Path PROGRAM = Path.of("src/main/java/PageRangeStore.java");

    public static void main(String[] args) throws IOException {
        theClassKeepsToTheRules();
        aPlainClassBreaksNone();
        brokenMembersAreSeen();
        brokenArraysAreSeen();
        brokenStatementsAreSeen();
        brokenCallsAreSeen();
        Checks.finish();
    }

    private static void theClassKeepsToTheRules() throws IOException {
        List<String> breaches = LanguageRules.breachesIn("PageRangeStore", Files.readString(PROGRAM));
        Checks.holds("the class breaks no rule: " + breaches, breaches.isEmpty());
    }

    private static void aPlainClassBreaksNone() throws IOException {
        List<String> breaches = LanguageRules.breachesIn("A", around("private final int[] a = new int[4];"
            + " public int f(int x) { int s = 0; for (int i = 0; i < 4; i++) { s += a[i] % 2; } return g(s, x); }"
            + " private static int g(int x, int y) { return (int) (x + (long) y); }"));
        Checks.holds("a plain class breaks no rule: " + breaches, breaches.isEmpty());
    }

    private static void brokenMembersAreSeen() throws IOException {
        seen(1, "package p; public final class A { }");
        seen(1, "public final class A { } class B { }");
        seen(1, around("private static class B { }"));
        seen(1, around("private enum B { C }"));
        seen(2, around("private double d;"));
        seen(2, around("private String s;"));
        seen(2, around("private int[][] a;"));
        seen(2, around("private Integer i;"));
        seen(2, body("return (int) (x * 0.5);"));
        seen(2, body("return (int) (float) x;"));
        seen(3, "import java.util.List; public final class A { }");
        seen(5, around("private static int s;"));
        seen(5, around("private static final boolean B = true;"));
        seen(5, around("private static final int[] S = new int[1];"));
        seen(5, around("private static final int S; static { S = 1; }"));
        seen(10, around("private int " + String.join(", ", many("f", 41)) + ";"));
        seen(10, around("private void f(int " + String.join(", int ", many("p", 8)) + ") { }"));
        seen(10, body("\n".repeat(61) + "return x;"));
    }

    private static void brokenArraysAreSeen() throws IOException {
        seen(4, body("int[] b = new int[3]; return b[0];"));
        seen(4, body("new A(); return x;"));
        seen(4, body("int[] b = {1, 2}; return b[0];"));
        seen(4, body("int[] b = a; b = a; return b[0];"));
        seen(4, body("return a == a ? 1 : 0;"));
        seen(4, body("return a != null ? 1 : 0;"));
        seen(4, around("private int[] b = new int[0];"));
        seen(4, around("private int n = 3; private int[] b = new int[n];"));
        seen(4, around("private int[] b = {1, 2};"));
        seen(4, around("private int[] b = new int[1]; private int[] f() { return b; }"));
    }

    private static void brokenStatementsAreSeen() throws IOException {
        seen(6, body("if (x > 0) { throw new RuntimeException(); } return x;"));
        seen(6, body("try { return x; } finally { a[0] = 1; }"));
        seen(6, body("synchronized (this) { return x; }"));
        seen(6, body("assert x > 0; return x;"));
        seen(6, body("Object o = this; return o instanceof A ? 1 : 0;"));
        seen(6, body("Runnable r = () -> { }; return x;"));
        seen(6, body("Runnable r = this::notify; return x;"));
        seen(6, body("int[] b = (int[]) a; return x;"));
        seen(7, body("return 5 / x;"));
        seen(7, body("return 5 % x;"));
        seen(7, body("int y = 5; y /= x; y %= 3; return y;"));
        seen(8, body("int y = x; while (y > 0) { y--; } return y;"));
        seen(8, body("int y = x; do { y--; } while (y > 0); return y;"));
        seen(8, body("for (int v : a) { x += v; } return x;"));
        seen(8, body("for (;;) { if (x++ > 3) { return x; } }"));
        seen(8, body("for (int i = 0; i <= x; i++) { a[0] = i; } return x;"));
        seen(8, body("for (int i = 0; i < x; i--) { a[0] = i; } return x;"));
        seen(8, body("for (int i = 0; i < x; i++) { i = 0; } return x;"));
        seen(8, body("for (int i = 0; i < x; i++) { i--; } return x;"));
        seen(8, body("for (int i = 0; i < x; i++) { x += 1; } return x;"));
    }

    private static void brokenCallsAreSeen() throws IOException {
        seen(3, body("return Math.abs(x);"));
        seen(3, body("return Integer.MAX_VALUE;"));
        seen(3, body("return hashCode();"));
        seen(3, body("return this.hashCode();"));
        seen(3, body("a.clone(); return x;"));
        seen(8, body("return f(x);"));
        seen(8, around("private int g(int x) { return h(x); } private int h(int x) { return g(x); }"));
        seen(10, around("private int g(int x) { return x; } private int h(int x) { return g(g(x)); }"));
        seen(10, around("private int g(int x) { return x; } private int h(int x) { return g(1 + (x > 0 ? g(x) : 0)); }"));
        seen(10, around(chain(7)));
        Checks.holds("a chain of six is none too deep", LanguageRules.breachesIn("A", around(chain(6))).isEmpty());
    }

    private static void seen(int rule, String source) throws IOException {
        List<String> breaches = LanguageRules.breachesIn("A", source);
        boolean isSeen = breaches.stream().anyMatch(breach -> breach.matches("rule " + rule + "[,:](?s).*"));
        Checks.holds("rule " + rule + " is broken by " + source + " but seen is " + breaches, isSeen);
    }

    private static String around(String members) {
        return "public final class A { " + members + " }";
    }

    private static String body(String statements) {
        return around("private final int[] a = new int[4]; public int f(int x) { " + statements + " }");
    }

    private static String[] many(String name, int count) {
        String[] names = new String[count];
        for (int i = 0; i < count; i++) {
            names[i] = name + i;
        }
        return names;
    }

    /** Methods c1 .. c(length), each of which calls the next one. */
    private static String chain(int length) {
        StringBuilder members = new StringBuilder();
        for (int i = 1; i < length; i++) {
            members.append("private void c" + i + "() { c" + (i + 1) + "(); } ");
        }
        return members.append("private void c" + length + "() { }").toString();
    }
}
