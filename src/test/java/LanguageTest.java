import java.io.IOException;
import java.nio.file.Files;
import java.nio.file.Path;
import java.util.List;

/** The class keeps the rules of ../shared/LANGUAGE.md, and Language sees it where one is broken. */
public final class LanguageTest {
    private static final Path PROGRAM = Path.of("src/main/java/Preformtower.java");

    public static void main(String[] args) throws IOException {
        List<String> complaints = Language.complaints(Files.readString(PROGRAM));
        complaints.forEach(complaint -> Check.wrong("rule " + complaint));
        Check.due("rules that " + PROGRAM + " does not keep", 0, complaints.size());
        keeps("no member more", "");
        keeps("what the rules let", "private static final int[] ROW = {1, 2}; private final Own[] t = null;"
            + "static final class Own { int a; Own next; }"
            + "private int f(int a) { if (a < 0) { throw new IllegalStateException(\"a text\"); } return Math.max(a, 1); }"
            + "private double h(int a) { double d = a / 2.0; return d < 0 ? -d : d; }");
        classesAndFields();
        statements();
        sizes();
        Check.end();
    }

    private static List<String> complaints(String members) throws IOException {
        return Language.complaints("public final class Preformtower { public Preformtower() { } "
            + "public int preform() { return 0; } " + members + " }");
    }

    private static void keeps(String what, String members) throws IOException {
        List<String> got = complaints(members);
        Check.due(what + " keeps the rules: " + got, 0, got.size());
    }

    private static void breaks(int rule, String members) throws IOException {
        List<String> got = complaints(members);
        boolean seen = got.size() == 1 && got.get(0).startsWith(rule + ": ");
        Check.due("rule " + rule + " is broken by " + members + ", told is " + got, 1, seen ? 1 : 0);
    }

    private static void classesAndFields() throws IOException {
        breaks(1, "int f() { return 0; }");
        breaks(1, "private int k; protected void f() { }");
        breaks(1, "int k;");
        breaks(1, "public int k;");
        breaks(1, "private int preform(int a) { return a; }");
        breaks(1, "private static final class Own { private int preform(int a) { return a; } }");
        breaks(1, "private final class Own { }");
        breaks(1, "public static final class Own { }");
        breaks(2, "private void f() { class Own { } }");
        breaks(3, "private float[][][] k;");
        breaks(3, "private java.util.HashMap<Integer, Integer> k;");
        breaks(3, "private Object k;");
        breaks(3, "private String[] k;");
        breaks(5, "private static int k;");
        breaks(5, "private static final double K = 1.5;");
        breaks(5, "private static final java.util.List<Integer> K = java.util.List.of(1);");
        breaks(5, "static { int k = 1; }");
        breaks(6, "private static final class Own { public String toString() { return \"\"; } }");
        Check.due("rule 1: not final", 1, Language.complaints("public class Preformtower { }").size());
        Check.due("rule 1: a package", 1, Language.complaints("package a; public final class Preformtower { }").size());
        Check.due("rule 1: two classes", 1,
            Language.complaints("public final class Preformtower { } final class Other { }").stream()
                .filter(told -> told.startsWith("1: more")).count());
        Check.due("rule 4: an import", 1,
            Language.complaints("import java.util.Random; public final class Preformtower { }").size());
    }

    private static void statements() throws IOException {
        breaks(2, "interface Own { int of(int a); } private Own f() { return a -> a; }");
        breaks(2, "interface Own { int of(int a); } private Own f() { return Math::abs; }");
        breaks(3, "private double f(double a) { return Math.abs(a); }");
        breaks(3, "private double f(double a) { return a % 2; }");
        breaks(4, "private long f() { return System.nanoTime(); }");
        breaks(4, "private void f() { System.gc(); }");
        breaks(4, "private int f(int a) { return Math.addExact(a, 1); }");
        breaks(4, "private int f(String t) { return t.hashCode(); }");
        breaks(4, "private String f() { return \"\\u00e9\"; }");
        breaks(6, "private void f(String t) { throw new IllegalStateException(t); }");
        breaks(6, "private void f() { throw new NullPointerException(); }");
        breaks(6, "static final class Own { Own(int a) { if (a < 0) { throw new IllegalStateException(); } } }");
        breaks(6, "private void f() { try { preform(); } catch (NullPointerException e) { } }");
        breaks(6, "private void f() { try { preform(); } finally { } }");
        breaks(6, "private void f() { try { preform(); throw new RuntimeException(); } catch (RuntimeException e) { } }");
        breaks(6, "private void f(int a) { assert a > 0; }");
        breaks(6, "private void f() { synchronized (this) { } }");
        breaks(6, "private boolean f(String a, String b) { return a == b; }");
        breaks(9, "private int f() { while (true) { if (preform() > 0) { return 1; } } }");
        breaks(9, "private int f() { for (;;) { if (preform() > 0) { return 1; } } }");
        breaks(10, "private String f(int a) { return \"a\" + a; }");
        breaks(10, "private String f(String a) { String b = a; b += a; return b; }");
        breaks(12, "static final class Own { } private void f(int a) { for (int k = 0; k < a; k++) { new Own(); } }");
    }

    private static void sizes() throws IOException {
        breaks(8, "private int f(int a) { return a > 0 ? f(a - 1) : 0; }");
        keeps("seven parameters", "private void f(int a, int b, int c, int d, int e, int f, int g) { }");
        breaks(11, "private void f(int a, int b, int c, int d, int e, int f, int g, int h) { }");
        keeps("sixty lines", "private void f() {" + "\n".repeat(59) + "}");
        breaks(11, "private void f() {" + "\n".repeat(60) + "}");
        keeps("twenty fields", fields(20));
        breaks(11, fields(21));
        keeps("twelve classes", classesInside(11));
        breaks(11, classesInside(12));
        keeps("eight deep", chain(8));
        breaks(11, chain(9));
    }

    private static String fields(int many) {
        StringBuilder all = new StringBuilder("private static final int K = 1;");
        for (int k = 0; k < many; k++) {
            all.append(" private int k").append(k).append(';');
        }
        return all.toString();
    }

    private static String classesInside(int many) {
        StringBuilder all = new StringBuilder();
        for (int k = 0; k < many; k++) {
            all.append(" static final class Own").append(k).append(" { }");
        }
        return all.toString();
    }

    private static String chain(int deep) {
        StringBuilder all = new StringBuilder("private void f1() { }");
        for (int k = 2; k <= deep; k++) {
            all.append(" private void f").append(k).append("() { f").append(k - 1).append("(); }");
        }
        return all.toString();
    }
}
