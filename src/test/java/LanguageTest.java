import java.io.IOException;
import java.nio.file.Files;
import java.nio.file.Path;
import java.util.List;
import java.util.Set;

/**
 * LANGUAGE.md, rule by rule: the source of the class breaks none, and Rules finds a breach of each that is
 * put into it. Rules 7 and 11 are tried on objects too.
 */
public final class LanguageTest {
    private static final Path MAIN = Path.of("src/main/java");
    private static final Path DOCUMENT = Path.of("../shared/DOC.md");
    private static final String CLASS = "public final class QuotaTree {";
    private static final String CONSTRUCTOR = "public QuotaTree() {";
    private static final int CALLS = 512;
    private static final int RUNS = 40;
    private static final int[] ARGUMENTS = {Integer.MIN_VALUE, Integer.MIN_VALUE + 1, -1001, -1000, -12, -2, -1,
        0, 1, 2, 3, 4, 5, 6, 7, 8, 9, 10, 11, 12, 13, 16, 31, 32, 33, 63, 64, 255, 256, 999, 1000, 1001, 65536,
        Integer.MAX_VALUE - 1000, Integer.MAX_VALUE - 1, Integer.MAX_VALUE};

    private static final Check check = new Check();
    private static String program;
    private static int samples = 0;

    public static void main(String[] args) throws IOException {
        program = Files.readString(MAIN.resolve("QuotaTree.java"));
        theProgram();
        theFace();
        oneClass();
        types();
        library();
        arrays();
        arraysInConstructor();
        statics();
        statements();
        divisors();
        recursion();
        loops();
        fine();
        sizes();
        noCallThrows();
        sameCallsSameAnswers();
        check.end();
    }

    private static void theProgram() throws IOException {
        check.part("the program");
        try (var files = Files.walk(MAIN)) {
            check.due("files", files.filter(Files::isRegularFile).count(), 1);
        }
        breaksNothing(program);
    }

    /** Line by line as it stands in the document, but for the bodies. */
    private static void theFace() throws IOException {
        check.part("rule 1, the document's face");
        List<String> due = publicLines(Files.readString(DOCUMENT));
        List<String> face = publicLines(program);
        check.due("public lines of the document", due.size(), 20);
        check.due("the document has " + due + ", the program " + face, face.equals(due), true);
    }

    private static List<String> publicLines(String text) {
        return text.lines().map(String::strip).filter(line -> line.startsWith("public "))
                .map(line -> line.replaceFirst(" ?[;{]$", "")).toList();
    }

    private static void breaksNothing(String text) {
        Source source = new Source(text);
        check.due("compiles: " + source.errors, source.errors.isEmpty(), true);
        Set<String> broken = Rules.brokenBy(source);
        check.due("breaks nothing: " + broken, broken.isEmpty(), true);
    }

    /** The text must be Java, or it would prove nothing. */
    private static void breaks(int rule, String text) {
        samples++;
        Source source = new Source(text);
        check.due("sample " + samples + " compiles: " + source.errors, source.errors.isEmpty(), true);
        if (source.errors.isEmpty()) {
            Set<String> broken = Rules.brokenBy(source);
            boolean found = broken.stream().anyMatch(told -> told.startsWith(rule + ":"));
            check.due("sample " + samples + " breaks the rule, and what was found is " + broken, found, true);
        }
    }

    private static String with(String members) {
        return program.substring(0, program.lastIndexOf('}')) + members + "\n}\n";
    }

    private static String changed(String old, String other) {
        check.due("the program has '" + old + "'", program.contains(old), true);
        return program.replace(old, other);
    }

    private static void oneClass() {
        check.part("rule 1");
        breaks(1, "package space;\n" + program);
        breaks(1, program + "final class Other { }");
        breaks(1, changed(CLASS, "public class QuotaTree {"));
        breaks(1, changed(CLASS, "final class QuotaTree {"));
        breaks(1, with("public static final int MORE = 1;"));
        breaks(1, with("private static final int add = 1;"));
        breaks(1, with("public int more() { return 1; }"));
        breaks(1, with("protected int more() { return 1; }"));
        breaks(1, with("int more() { return 1; }"));
        breaks(1, with("int more;"));
        breaks(1, with("private int total(int o, int p) { return o + p; }"));
        breaks(1, with("private static class Inner { }"));
        breaks(1, with("private interface Inner { }"));
        breaks(1, with("private enum Inner { ONE }"));
        breaks(1, with("private record Inner(int one) { }"));
        breaks(1, changed(CONSTRUCTOR, "QuotaTree() {"));
        breaks(1, with("private int local() { class Inner { } return 1; }"));
    }

    private static void types() {
        check.part("rule 2");
        breaks(2, with("private float share;"));
        breaks(2, with("private double share() { return 1; }"));
        breaks(2, with("private int share(double all) { return 1; }"));
        breaks(2, with("private int half() { return (int) (1.5 * 2); }"));
        breaks(2, with("private boolean some(int n) { return n > 0.5f; }"));
        breaks(2, with("private String text;"));
        breaks(2, with("private boolean text() { var text = \"a\" + 1; return true; }"));
        breaks(2, with("private Integer boxed;"));
        breaks(2, with("private Object other;"));
        breaks(2, with("private QuotaTree other;"));
        breaks(2, with("private int[][] square;"));
        breaks(2, with("private double[] row;"));
        breaks(2, with("private <T> int any(int n) { return n; }"));
    }

    private static void library() {
        check.part("rule 3");
        breaks(3, "import java.util.List;\n" + program);
        breaks(3, with("private int most() { return Math.max(1, 2); }"));
        breaks(3, with("private int most() { return Integer.MAX_VALUE; }"));
        breaks(3, with("private long now() { return System.nanoTime(); }"));
        breaks(3, with("private int code() { return hashCode(); }"));
        breaks(3, with("private int code() { return this.hashCode(); }"));
        breaks(3, with("private int code() { return super.hashCode(); }"));
        breaks(3, with("private int copy() { return limitOf.clone()[0]; }"));
        breaks(3, with("private void clear() { java.util.Arrays.fill(limitOf, 0); }"));
        breaks(3, with("@Deprecated private int old() { return 1; }"));
        breaks(3, changed(CLASS, "public final class QuotaTree extends Thread {"));
        breaks(3, changed(CLASS, "public final class QuotaTree implements Cloneable {"));
    }

    private static void arrays() {
        check.part("rule 4");
        breaks(4, with("private int[] row() { return limitOf; }"));
        breaks(4, with("private int row() { int[] row = new int[3]; return row[0]; }"));
        breaks(4, with("private int[] row = {1, 2};"));
        breaks(4, with("private int[] row = new int[] {1, 2};"));
        breaks(4, with("private int[] row = new int[0];"));
        breaks(4, with("private int size = 3; private int[] row = new int[size];"));
        breaks(4, with("private int[] row = BAD < 0 ? new int[1] : limitOf;"));
        breaks(4, with("private int[] row; { row = new int[1]; }"));
        breaks(4, with("private boolean same() { return limitOf == usedBy; }"));
        breaks(4, with("private boolean none() { return limitOf != null; }"));
        breaks(4, with("private int[] row; private void swap() { row = limitOf; }"));
        breaks(4, with("private int last() { int[] row = limitOf; for (int i = 0; i < OWNERS; i++) { row = usedBy; }"
                + " return row[0]; }"));
        breaks(4, with("private boolean other() { return new QuotaTree().over() == 0; }"));
    }

    private static void arraysInConstructor() {
        check.part("rule 4, the constructor");
        String field = "private int[] row = new int[2]; private boolean first(int[] any) { return any[0] == 0; } ";
        String open = "private int[] row; private boolean first() { return limitOf[0] == 0; } ";
        breaks(4, changed(CONSTRUCTOR, field + CONSTRUCTOR + "row = new int[3];"));
        breaks(4, changed(CONSTRUCTOR, field + CONSTRUCTOR + "first(row);"));
        breaks(4, changed(CONSTRUCTOR, open + CONSTRUCTOR + "first(); row = new int[3];"));
        breaks(4, changed(CONSTRUCTOR, open + CONSTRUCTOR + "row = new int[3]; row = new int[3];"));
        breaks(4, changed(CONSTRUCTOR, open + CONSTRUCTOR + "if (BAD < 0) { row = new int[3]; }"));
        breaks(4, changed(CONSTRUCTOR,
                open + CONSTRUCTOR + "for (int i = 0; i < 2; i++) { row = new int[3]; }"));
        breaksNothing(changed(CONSTRUCTOR, open + CONSTRUCTOR + "row = new int[3]; first();"));
    }

    private static void statics() {
        check.part("rule 5");
        breaks(5, with("private static int count;"));
        breaks(5, with("private static int count = 1;"));
        breaks(5, with("private static final boolean ON = true;"));
        breaks(5, with("private static final short SMALL = 1;"));
        breaks(5, with("private static final int[] ROW = new int[3];"));
        breaks(5, with("private static final int LATE; static { LATE = 1; }"));
        breaks(5, with("static { }"));
    }

    private static void statements() {
        check.part("rule 6");
        breaks(6, with("private int none() { throw new RuntimeException(); }"));
        breaks(6, with("private int none() { try { return limitOf[0]; } finally { over(); } }"));
        breaks(6, with("private int none() { try { return 1; } catch (RuntimeException e) { return 2; } }"));
        breaks(6, with("private int none() throws RuntimeException { return 1; }"));
        breaks(6, with("private int none() { synchronized (this) { return 1; } }"));
        breaks(6, with("private synchronized int none() { return 1; }"));
        breaks(6, with("private int none(int n) { assert n > 0; return n; }"));
        breaks(6, with("private boolean none(Object any) { return any instanceof QuotaTree; }"));
        breaks(6, with("private boolean none() { Runnable any = () -> { }; return true; }"));
        breaks(6, with("private boolean none() { Runnable any = this::over; return true; }"));
        breaks(6, with("private boolean none(Object any) { return ((QuotaTree) any).over() == 0; }"));
        breaks(6, with("private int none() { return ((int[]) limitOf)[0]; }"));
    }

    private static void divisors() {
        check.part("rule 7, divisors");
        breaks(7, with("private int part(int n) { return 1000 / n; }"));
        breaks(7, with("private int part(int n) { return 1000 % n; }"));
        breaks(7, with("private int part(int n) { int m = 5; m /= n; return m; }"));
        breaks(7, with("private int part(int n) { int m = 5; m %= n; return m; }"));
    }

    private static void recursion() {
        check.part("rule 8, recursion");
        breaks(8, with("private int again(int n) { return n == 0 ? 0 : again(n - 1); }"));
        breaks(8, with("private int here(int n) { return there(n); } private int there(int n) { return here(n); }"));
        breaks(8, with("private int again() { return over() + more(); } private int more() { return again(); }"));
    }

    private static void loops() {
        check.part("rule 8, loops");
        breaks(8, with("private void on() { while (limitOf[0] > 0) { limitOf[0]--; } }"));
        breaks(8, with("private void on() { do { limitOf[0]--; } while (limitOf[0] > 0); }"));
        breaks(8, with("private void on() { for (;;) { limitOf[0]--; } }"));
        breaks(8, with("private void on() { for (int o = 0; parentOf[o] != NOBODY; o++) { } }"));
        breaks(8, with("private void on() { for (int o = 0; o != OWNERS; o++) { } }"));
        breaks(8, with("private void on() { for (int o = 0; o < OWNERS; o += 0) { } }"));
        breaks(8, with("private void on() { for (int o = 0; o < OWNERS; o++) { o = 0; } }"));
        breaks(8, with("private void on() { for (int o = 0; o < OWNERS; o++) { o--; } }"));
        breaks(8, with("private void on() { for (int o = 0; o < OWNERS; o++) { o -= 1; } }"));
        breaks(8, with("private void on() { for (int o = 0; o < OWNERS || limitOf[0] > 0; o++) { } }"));
        breaks(8, with("private int on() { int sum = 0; for (int o : limitOf) { sum += o; } return sum; }"));
    }

    private static void fine() {
        check.part("rules 2, 4 and 9, what is fine");
        breaksNothing(with("private static final long MANY = 5; private final byte[] small = new byte[3];"
                + " private char sign; private static int first(short[] row) { return row.length; }"));
        breaksNothing(with("private long all(int n, long m) { outer: for (int i = 0; i < 9; i++) {"
                + " switch (n) { case 1: continue outer; case 2: break; default: break outer; } }"
                + " return n > 0 && m > 0 || n < -5 ? m << 3 ^ (long) n >>> 2 : (byte) ~n / 7; }"));
        breaksNothing(with("private int named(int o) { int[] row = limitOf; return this.usedBy[0] + row[0]; }"));
    }

    private static void sizes() {
        check.part("rule 10");
        breaks(10, with("private int eight(int a, int b, int c, int d, int e, int f, int g, int h) { return a; }"));
        breaks(10, with("private int inner() { return total(room(0)); }"));
        breaks(10, with("private int inner() { return total(1 + room(0)); }"));
        breaks(10, with("private int lengthy() {" + "\n".repeat(60) + "return 1; }"));
        breaks(10, with("private int a() { return b(); } private int b() { return c(); }"
                + " private int c() { return d(); } private int d() { return e(); }"
                + " private int e() { return f(); } private int f() { return g(); } private int g() { return 1; }"));
        StringBuilder fields = new StringBuilder();
        for (int i = 0; i < 41; i++) {
            fields.append("private int field").append(i).append(";\n");
        }
        breaks(10, with(fields.toString()));
    }

    /** A fixed row of numbers (Knuth's multiplier). */
    private static long next(long seed) {
        return seed * 6364136223846793005L + 1442695040888963407L;
    }

    /** Fewer odd arguments than ordinary ones, so that the object fills up. */
    private static int pick(long seed) {
        int i = (int) (seed >>> 33);
        return i % 4 == 0 ? ARGUMENTS[i / 4 % ARGUMENTS.length] : i / 4 % 13;
    }

    private static int call(QuotaTree x, int method, int a, int b) {
        return switch (method) {
            case 0 -> x.add(a, b);
            case 1 -> x.remove(a) ? 1 : 0;
            case 2 -> x.setLimit(a, b) ? 1 : 0;
            case 3 -> x.move(a, b);
            case 4 -> x.reserve(a, b);
            case 5 -> x.use(a, b);
            case 6 -> x.giveBack(a);
            case 7 -> x.release(a, b);
            case 8 -> x.free(a);
            case 9 -> x.recover();
            case 10 -> x.total(a);
            case 11 -> x.room(a);
            case 12 -> x.blocker(a, b);
            case 13 -> x.over();
            default -> x.below(a);
        };
    }

    private static int callOf(QuotaTree x, long seed) {
        long second = next(seed);
        long third = next(second);
        return call(x, (int) (seed >>> 33) % 15, pick(second), pick(third));
    }

    /** Each method with each pair of arguments, in states of all sizes; a throw would end the test. */
    private static void noCallThrows() {
        check.part("rule 7, no call throws");
        int answered = 0;
        for (int run = 1; run <= RUNS; run++) {
            for (int method = 0; method < 15; method++) {
                QuotaTree x = new QuotaTree();
                long seed = run;
                for (int i = 0; i < run * CALLS / RUNS; i++) {
                    seed = next(seed);
                    callOf(x, seed);
                }
                answered += callWithAll(x, method);
            }
        }
        check.due("calls answered", answered, RUNS * 15 * ARGUMENTS.length * ARGUMENTS.length);
    }

    private static int callWithAll(QuotaTree x, int method) {
        int answered = 0;
        for (int a : ARGUMENTS) {
            for (int b : ARGUMENTS) {
                call(x, method, a, b);
                answered++;
            }
        }
        return answered;
    }

    private static void sameCallsSameAnswers() {
        check.part("rule 11, the same calls give the same answers");
        for (int run = 1; run <= RUNS; run++) {
            int[] alone = answersOf(run, false);
            int[] amongOthers = answersOf(run, true);
            for (int i = 0; i < CALLS; i++) {
                check.due("run " + run + ", call " + (i + 1), amongOthers[i], alone[i]);
            }
        }
    }

    private static int[] answersOf(int run, boolean amongOthers) {
        QuotaTree x = new QuotaTree();
        QuotaTree other = new QuotaTree();
        int[] answers = new int[CALLS];
        long seed = run;
        for (int i = 0; i < CALLS; i++) {
            seed = next(seed);
            answers[i] = callOf(x, seed);
            if (amongOthers) {
                callOf(other, next(seed));
                new QuotaTree().reserve(0, 1000);
            }
        }
        return answers;
    }
}
