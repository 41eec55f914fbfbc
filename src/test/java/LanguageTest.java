import java.io.IOException;
import java.nio.file.Files;
import java.nio.file.Path;
import java.util.List;

/** The class keeps to LANGUAGE.md, rule by rule; and what breaks a rule is seen. */
final class LanguageTest {
    private static final Check CHECK = new Check();
    private static final String SOURCE = "src/main/java/AdminRoleAnalyser.java";

    public static void main(String[] args) throws IOException {
        CHECK.same("what is broken", "[]", Language.broken(Files.readString(Path.of(SOURCE))).toString());
        kept();
        members();
        statements();
        calls();
        CHECK.end();
    }

    private static String inClass(String members) {
        return "public final class AdminRoleAnalyser {\n" + members + "\n}\n";
    }

    private static void breaks(int rule, String source) throws IOException {
        List<String> broken = Language.broken(source);
        CHECK.due("rule " + rule + " is broken by " + source.replace("\n", " ") + ": " + broken, true,
            broken.stream().anyMatch(line -> line.startsWith(rule + ": ")));
        CHECK.due("nothing else is wrong with " + source.replace("\n", " ") + ": " + broken, false,
            broken.stream().anyMatch(line -> line.startsWith("not compiled")));
    }

    private static void memberBreaks(int rule, String member) throws IOException {
        breaks(rule, inClass(member));
    }

    private static void statementBreaks(int rule, String statement) throws IOException {
        memberBreaks(rule, "private int n = 1; private final int[] a = new int[2];\n"
            + "private int m(int k) { " + statement + " return k; }");
    }

    private static void kept() throws IOException {
        String members = "private static final int N = 3; private static final long M = 1L << 40;\n"
            + "private final int[] a = new int[N]; private final boolean[] b = new boolean[1]; private int c;\n"
            + "private int m(int k) { for (int i = 0; i < N && i < k; i++) { a[i] += k; c = i; } return (byte) k; }\n"
            + "private int o(int k) { for (int i = a.length - 1; i >= 0; i -= 2) { k ^= a[i]; } return m(k); }\n"
            + "private int p(int k) { switch (k) { case 1: return o(1) + m(2); default: return b[0] ? 1 : 2; } }";
        CHECK.same("what is broken by " + members, "[]", Language.broken(inClass(members)).toString());
    }

    private static void members() throws IOException {
        breaks(1, "package p;\n" + inClass(""));
        breaks(1, inClass("") + "class Other { }\n");
        breaks(3, "import java.util.List;\n" + inClass(""));
        memberBreaks(1, "private static final class Inner { }");
        memberBreaks(1, "private enum Inner { A }");
        memberBreaks(1, "private record Inner(int a) { }");
        memberBreaks(1, "private interface Inner { }");
        memberBreaks(2, "private double d;");
        memberBreaks(2, "private final float[] d = new float[1];");
        memberBreaks(2, "private String s;");
        memberBreaks(2, "private final int[][] a = new int[2][];");
        memberBreaks(2, "private void m(Object o) { }");
        memberBreaks(3, "@Deprecated private void m() { }");
        memberBreaks(4, "private final int[] a = {1, 2};");
        memberBreaks(4, "private final int[] a = new int[0];");
        memberBreaks(4, "private int k; private final int[] a = new int[k];");
        memberBreaks(4, "private final int[] a = new int[1]; private int[] m() { return a; }");
        memberBreaks(5, "private static int n = 1;");
        memberBreaks(5, "private static final int[] A = new int[1];");
        memberBreaks(5, "private static final boolean B = true;");
        memberBreaks(5, "static { }");
        memberBreaks(6, "private synchronized void m() { }");
        memberBreaks(10, "private void m(int a, int b, int c, int d, int e, int f, int g, int h) { }");
        memberBreaks(10, "private void m() {" + "\n".repeat(60) + "}");
        StringBuilder fields = new StringBuilder();
        for (int i = 0; i < 41; i++) {
            fields.append("private int f").append(i).append("; ");
        }
        memberBreaks(10, fields.toString());
    }

    private static void statements() throws IOException {
        statementBreaks(2, "k = (int) (k * 1.5);");
        statementBreaks(2, "k = (int) (double) k;");
        statementBreaks(2, "var s = \"\";");
        statementBreaks(3, "k = Math.max(k, 1);");
        statementBreaks(3, "k = Integer.MAX_VALUE;");
        statementBreaks(3, "new Object();");
        statementBreaks(3, "k = hashCode();");
        statementBreaks(4, "int[] b = new int[3];");
        statementBreaks(4, "int[] b = a; b = a;");
        statementBreaks(4, "if (a == a) { k = 1; }");
        statementBreaks(4, "if (a != null) { k = 1; }");
        statementBreaks(6, "if (k < 0) { throw new RuntimeException(); }");
        statementBreaks(6, "try { k = 1; } finally { k = 2; }");
        statementBreaks(6, "synchronized (this) { k = 1; }");
        statementBreaks(6, "assert k > 0;");
        statementBreaks(6, "Runnable r = () -> { };");
        statementBreaks(6, "Runnable r = this::hashCode;");
        statementBreaks(6, "Object o = a; if (o instanceof int[]) { k = 1; }");
        statementBreaks(8, "while (k > 0) { k--; }");
        statementBreaks(8, "do { k--; } while (k > 0);");
        statementBreaks(8, "for (;;) { if (k++ > 9) { break; } }");
        statementBreaks(8, "for (int i : a) { k += i; }");
        statementBreaks(8, "for (int i = 0; n < k; i++) { n++; }");
        statementBreaks(8, "for (int i = 0; i < k; n++) { k--; }");
        statementBreaks(8, "for (int i = 0; i < k; i++) { i = 0; }");
        statementBreaks(8, "for (int i = 0; i < k; i++) { --i; }");
        statementBreaks(8, "for (int i = 0; i < k; i *= 2) { n = 1; }");
        statementBreaks(8, "for (int i = 0; i < k; i++) { i *= 0; }");
        statementBreaks(8, "for (int i = 0; i < k; i--) { n = 1; }");
        statementBreaks(8, "for (int i = 0; i > k; i += 1) { n = 1; }");
        statementBreaks(8, "for (int i = 0; i < k; i += 0) { n = 1; }");
        statementBreaks(8, "for (int i = 0; i < k || n > 0; i++) { n = 1; }");
    }

    private static void calls() throws IOException {
        memberBreaks(8, "private int m(int k) { return k == 0 ? 0 : m(k - 1); }");
        memberBreaks(8, "private void m() { o(); } private void o() { p(); } private void p() { m(); }");
        memberBreaks(10, "private int m(int k) { return k; } private int o(int k) { return m(1 + m(k)); }");
        String six = "private void a() { b(); } private void b() { c(); } private void c() { d(); }"
            + " private void d() { e(); } private void e() { f(); }";
        CHECK.same("six deep", "[]", Language.broken(inClass(six + " private void f() { }")).toString());
        memberBreaks(10, six + " private void f() { g(); } private void g() { }");
    }
}
