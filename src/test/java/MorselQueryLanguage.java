import java.io.IOException;
import java.nio.file.Files;
import java.nio.file.Path;
import java.util.Set;

// The rules of LANGUAGE.md that show in the source's syntax tree, tried on the class, and on members that break one each.
public final class MorselQueryLanguage extends Checks {
    private static final Path SOURCE = Path.of("src/main/java/MorselQuery.java");

    public static void main(String[] args) throws IOException {
        about = "LANGUAGE.md";
        for (String fault : LanguageRules.faultsOf(Files.readString(SOURCE))) {
            must(fault, false);
        }
        kept();
        broken();
        end();
    }

    private static Set<String> faultsOfMember(String member) {
        return LanguageRules.faultsOf("public final class Sample {\nprivate static final int SIZE = 4;\n"
            + "private final int[] list = new int[SIZE];\nprivate int count;\n" + member + "\n}\n");
    }

    private static void keeps(String member) {
        Set<String> faults = faultsOfMember(member);
        must(member + ": " + faults, faults.isEmpty());
    }

    private static void breaks(int rule, String member) {
        Set<String> faults = faultsOfMember(member);
        boolean found = faults.stream().anyMatch(fault -> fault.startsWith("rule " + rule + ",") || fault.startsWith("rule " + rule + ":"));
        must(member + " breaks rule " + rule + ", and only this was found: " + faults, found);
    }

    private static void kept() {
        keeps("");
        keeps("public Sample() { count = 1; }");
        keeps("private int f(int[] of, long b) { return of[0] + (int) b; }");
        keeps("private void f() { for (int i = 0; i < SIZE; i++) { list[i] = i; } }");
        keeps("private void f() { int last = count; for (int i = last - 1; i >= 0; i--) { count--; } }");
        keeps("private int a() { return 1; } private int b() { int x = a(); return x + a(); }");
        keeps(chain(6));
    }

    private static void broken() {
        breaks(1, "private class Inner { }");
        breaks(1, "private enum Kind { ONE }");
        breaks(1, "int open;");
        breaks(1, "void open() { }");
        breaks(1, "public int twice() { return 1; } private int twice(int a) { return a; }");
        breaks(2, "private double part;");
        breaks(2, "private void f() { String s; }");
        breaks(2, "private void f() { var s = 1; }");
        breaks(2, "private int[][] square;");
        breaks(2, "private int[] f() { return list; }");
        breaks(2, "private int f() { return \"a\" == \"b\" ? 1 : 0; }");
        breaks(3, "private int f(int a) { return Math.abs(a); }");
        breaks(3, "private int f() { return hashCode(); }");
        breaks(3, "private int f() { return Integer.MAX_VALUE; }");
        breaks(3, "@Deprecated private int f() { return 1; }");
        breaks(4, "private void f() { int[] a = new int[SIZE]; }");
        breaks(4, "private final int[] given = {1, 2};");
        breaks(4, "private final int[] empty = new int[0];");
        breaks(4, "private int[] loose = new int[SIZE];");
        breaks(4, "private boolean f(int[] a) { return a == list; }");
        breaks(4, "private boolean f(int[] a) { return a == null; }");
        breaks(4, "private void f(int[] a) { a = list; }");
        breaks(4, "private void f() { new Sample(); }");
        breaks(5, "private static final int[] SHARED = new int[SIZE];");
        breaks(5, "private static int shared;");
        breaks(5, "private static final boolean FLAG = true;");
        breaks(5, "static { }");
        breaks(6, "private void f() { throw new RuntimeException(); }");
        breaks(6, "private void f() { try { count++; } finally { count--; } }");
        breaks(6, "private void f() { assert count == 0; }");
        breaks(6, "private void f() { synchronized (this) { count++; } }");
        breaks(6, "private void f() { g(() -> 1); }");
        breaks(6, "private void f() { g(Sample::new); }");
        breaks(8, "private void f() { while (count > 0) { count--; } }");
        breaks(8, "private void f() { do { count--; } while (count > 0); }");
        breaks(8, "private void f() { for (;;) { } }");
        breaks(8, "private void f() { for (int i = 0; i < SIZE; i--) { } }");
        breaks(8, "private void f() { for (int i = 0; i < SIZE; i++) { i--; } }");
        breaks(8, "private void f() { int end = 1; for (int i = 0; i < end; i++) { end++; } }");
        breaks(8, "private void f() { for (int i = 0; i < list[0]; i++) { list[0]++; } }");
        breaks(8, "private void f() { for (int i = 0; i < count; i++) { g(); } } private void g() { count++; }");
        breaks(8, "private int f(int a) { return f(a - 1); }");
        breaks(8, "private int f(int a) { return g(a); } private int g(int a) { return f(a); }");
        breaks(10, "private void f(int a, int b, int c, int d, int e, int g, int h, int i) { }");
        breaks(10, "private int f(int a) { return a; } private int g() { return f(f(1)); }");
        breaks(10, "private int f(int a) { return a; } private int g() { return f(1 + f(1)); }");
        breaks(10, "private void f() {" + "\ncount++;".repeat(60) + "}");
        breaks(10, chain(7));
        breaks(10, fields(39));
    }

    private static String chain(int depth) {
        StringBuilder methods = new StringBuilder("private int f1() { return 1; }");
        for (int i = 2; i <= depth; i++) {
            methods.append(" private int f").append(i).append("() { return f").append(i - 1).append("(); }");
        }
        return methods.toString();
    }

    private static String fields(int count) {
        StringBuilder fields = new StringBuilder();
        for (int i = 0; i < count; i++) {
            fields.append("private int field").append(i).append("; ");
        }
        return fields.toString();
    }
}
