import java.io.IOException;
import java.nio.file.Files;
import java.nio.file.Path;
import java.util.List;

/** The program keeps to the rules of LANGUAGE.md, and LanguageRules tells a program that does not. */
final class LanguageTest {
    private LanguageTest() {
    }

    static void run(Check check, String file) throws IOException {
        check.about("LANGUAGE.md");
        String source = Files.readString(Path.of(file));
        check.text("the program", String.join("; ", LanguageRules.complaints("ConstrainedCoder", source)), "");
        check.holds("plain characters", source.chars().allMatch(c -> c == '\n' || c >= 32 && c < 127));
        within(check, "private int a(int x) { for (int i = 0; i < 3; i++) { x += i; } return Math.max(x, 2); }");
        within(check, "private final int[] row = new int[3]; private static final int SIZE = 3;");
        within(check, "static final class I { private final double[][] row = new double[2][3]; int of() { return 1; } }");
        breaksRuleOfTheFace(check);
        breaksRuleOfTypes(check);
        breaksRuleOfExceptions(check);
        breaksRuleOfLoops(check);
        breaksRuleOfSize(check);
    }

    private static void breaksRuleOfTheFace(Check check) throws IOException {
        breaks(check, 1, "int a() { return 1; }");
        breaks(check, 1, "protected int a = 1;");
        breaks(check, 1, "public int a() { return 1; } static class I { int a() { return 2; } }");
        breaks(check, 1, "public int a() { return a(2); } private int a(int x) { return x; }");
        breaks(check, 1, "public static class I { }");
        breaks(check, 1, "class I { }");
        breaks(check, 2, "private interface I { }");
        breaks(check, 2, "static class I extends X2 { } static class X2 { }");
        breaks(check, 2, "private Runnable r = () -> { };");
        breaks(check, 2, "private java.util.function.IntSupplier r = this::hashCode;");
        breaks(check, 2, "private final Object r = new Object() { };");
    }

    private static void breaksRuleOfTypes(Check check) throws IOException {
        breaks(check, 3, "private boolean[][] row = null;");
        breaks(check, 3, "private int[][][] row = null;");
        breaks(check, 3, "private Integer number = 1;");
        breaks(check, 3, "private java.util.Map<String, String> map = null;");
        breaks(check, 3, "private double a(double x) { return x % 2.0; }");
        breaks(check, 3, "private double a(double x) { return Math.max(x, 2.0); }");
        breaks(check, 4, "private long a(double x) { return Double.doubleToLongBits(x); }");
        breaks(check, 4, "private int a(int x) { return Math.addExact(x, 1); }");
        breaks(check, 4, "private long a() { return System.nanoTime(); }");
        breaks(check, 4, "private final Object random = new java.util.Random();");
        breaks(check, 4, "private static final String TEXT = \"\u00e9\";");
        breaks(check, 5, "private static int a = 1;");
        breaks(check, 5, "private static final int[] A = {1};");
        breaks(check, 5, "private static final double A = 1.0;");
        breaks(check, 5, "static { }");
    }

    private static void breaksRuleOfExceptions(Check check) throws IOException {
        breaks(check, 6, "private void a() { throw new IllegalStateException(); }");
        breaks(check, 6, "private void a() { try { a(); } catch (RuntimeException e) { return; } }");
        breaks(check, 6, "private void a() throws RuntimeException { }");
        breaks(check, 6, "private void a(int x) { assert x > 0; }");
        breaks(check, 6, "private void a() { synchronized (this) { } }");
        breaks(check, 6, "private boolean a(Object x) { return x instanceof String; }");
        breaks(check, 6, "private String a(Object x) { return (String) x; }");
        breaks(check, 6, "private boolean a(String x, String y) { return x == y; }");
    }

    private static void breaksRuleOfLoops(Check check) throws IOException {
        breaks(check, 8, "private int a(int x) { return x == 0 ? 0 : a(x - 1); }");
        breaks(check, 8, "private int a(int x) { return x == 0 ? 0 : b(x - 1); } private int b(int x) { return a(x); }");
        breaks(check, 9, "private void a() { for (;;) { } }");
        breaks(check, 9, "private void a(int x) { for (int i = 0; i < x;) { i++; } }");
        breaks(check, 9, "private void a() { while (true) { } }");
        breaks(check, 9, "private void a(boolean x) { while (x) { } }");
        breaks(check, 9, "private void a(int x) { do { x--; } while (x > 0); }");
        breaks(check, 10, "private String a(int x) { return \"\" + x; }");
        breaks(check, 12, "private int[] a() { return new int[3]; }");
        breaks(check, 12, "static class I { I a() { return new I(); } }");
    }

    private static void breaksRuleOfSize(Check check) throws IOException {
        breaks(check, 11, "private void a(int a, int b, int c, int d, int e, int f, int g, int h) { }");
        breaks(check, 11, "private void a() {" + "\n".repeat(60) + "}");
        within(check, "private void a() {" + "\n".repeat(59) + "}");
        breaks(check, 11, numbered("private int a#;", LanguageRules.MOST_FIELDS + 1));
        within(check, numbered("private int a#;", LanguageRules.MOST_FIELDS));
        breaks(check, 11, numbered("static class I# { }", LanguageRules.MOST_CLASSES));
        within(check, numbered("static class I# { }", LanguageRules.MOST_CLASSES - 1));
        breaks(check, 11, chain(LanguageRules.DEEPEST_CALL + 1));
        within(check, chain(LanguageRules.DEEPEST_CALL));
    }

    /** Methods of which each but the last calls the next one. */
    private static String chain(int methods) {
        StringBuilder text = new StringBuilder();
        for (int i = 1; i < methods; i++) {
            text.append("private void a").append(i).append("() { a").append(i + 1).append("(); } ");
        }
        return text + "private void a" + methods + "() { }";
    }

    private static String numbered(String member, int count) {
        StringBuilder text = new StringBuilder();
        for (int i = 1; i <= count; i++) {
            text.append(member.replace("#", String.valueOf(i))).append(' ');
        }
        return text.toString();
    }

    private static List<String> complaints(String members) throws IOException {
        return LanguageRules.complaints("X", "public final class X { " + members + " }");
    }

    private static void within(Check check, String members) throws IOException {
        check.text(members, String.join("; ", complaints(members)), "");
    }

    private static void breaks(Check check, int rule, String members) throws IOException {
        List<String> all = complaints(members);
        boolean told = false;
        for (String complaint : all) {
            told = told || complaint.startsWith("rule " + rule + ",");
        }
        check.holds("rule " + rule + " is broken by: " + members + " (told: " + all + ")", told);
    }
}
