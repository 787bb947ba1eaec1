import java.util.Arrays;
import java.util.List;
import java.util.Set;
import java.util.TreeSet;
import java.util.function.Consumer;
import java.util.function.ToIntFunction;

/**
 * A call that is answered BAD, FULL, REFUSED or false changes nothing, and neither does a question,
 * in any of several states and for all arguments at and around the edges.
 */
public final class NothingChangesTest {
    private static final int[] OWNERS = {Integer.MIN_VALUE, -1, 0, 1, 2, 3, 4, 5, 6, 7, 8, 9, 10, 11, 12, 32,
        Integer.MAX_VALUE};
    private static final int[] SPACES = {Integer.MIN_VALUE, -1, 0, 1, 2, 6, 11, 30, 31, 999, 1000, 1001,
        Integer.MAX_VALUE};
    /** Each must come up somewhere, or the test has not seen what it is for. */
    private static final Set<String> ANSWERS = new TreeSet<>(Arrays.asList(
            "add -1", "add -2", "remove -1", "setLimit -1", "move -1", "move -3", "reserve -1", "reserve -2",
            "reserve -3", "use -1", "giveBack -1", "release -1", "free -1"));

    private static final Check check = new Check();
    private static final Set<String> came = new TreeSet<>();

    private static Consumer<QuotaTree> build;
    private static List<String> before;

    public static void main(String[] args) {
        inState("a new object", x -> { });
        inState("an ordinary tree", NothingChangesTest::ordinaryTree);
        inState("twelve in a line, ten reservations", NothingChangesTest::fullLine);
        inState("twelve, eleven of them below 0", NothingChangesTest::fullFlat);
        inState("owners over their limits", NothingChangesTest::overLimits);
        inState("free numbers among the taken ones", NothingChangesTest::gaps);
        inState("limits of 0", NothingChangesTest::noLimits);
        check.part("all states");
        check.due("the answers that came up: " + came, came.equals(ANSWERS), true);
        check.end();
    }

    private static void ordinaryTree(QuotaTree x) {
        x.add(0, 100);
        x.add(1, 60);
        x.add(1, 50);
        x.add(0, 30);
        x.add(3, 40);
        for (int o = 0; o < 6; o++) {
            x.reserve(o, 12);
            x.use(o, 2 * o);
            x.release(o, o / 2);
        }
        x.reserve(2, 0);
    }

    private static void fullLine(QuotaTree x) {
        for (int o = 1; o < 12; o++) {
            x.add(o - 1, 1000 - 10 * o);
        }
        for (int r = 0; r < 10; r++) {
            x.reserve(11 - r, 5 * r);
            x.use(r, 2 * r);
            x.release(11 - r, r);
        }
    }

    private static void fullFlat(QuotaTree x) {
        for (int o = 1; o < 12; o++) {
            x.add(0, 10 * o);
        }
        for (int o = 1; o < 9; o++) {
            x.reserve(o, 10 * o);
        }
    }

    private static void overLimits(QuotaTree x) {
        ordinaryTree(x);
        x.setLimit(0, 20);
        x.setLimit(1, 0);
        x.setLimit(4, 5);
        x.setLimit(5, 11);
    }

    private static void gaps(QuotaTree x) {
        for (int o = 1; o < 12; o++) {
            x.add(o / 3, 100);
        }
        for (int r = 0; r < 10; r++) {
            x.reserve(r % 4, 7);
        }
        x.use(2, 6);
        x.giveBack(0);
        x.giveBack(5);
        x.giveBack(9);
        x.remove(11);
        x.remove(5);
        x.remove(8);
    }

    private static void noLimits(QuotaTree x) {
        for (int o = 1; o < 6; o++) {
            x.add(o - 1, 0);
        }
        x.reserve(3, 0);
        x.reserve(5, 0);
        x.reserve(0, 31);
        x.use(2, 30);
        x.release(0, 29);
    }

    private static void inState(String name, Consumer<QuotaTree> state) {
        check.part(name);
        build = state;
        before = Seen.of(built());
        changesOfOwners();
        changesOfSpace();
        questions();
    }

    private static QuotaTree built() {
        QuotaTree x = new QuotaTree();
        build.accept(x);
        return x;
    }

    private static void changesOfOwners() {
        for (int o : OWNERS) {
            refused("remove", o, 0, x -> x.remove(o) ? 1 : -1);
            for (int parent : OWNERS) {
                refused("move", o, parent, x -> x.move(o, parent));
            }
            for (int n : SPACES) {
                refused("add", o, n, x -> x.add(o, n));
                refused("setLimit", o, n, x -> x.setLimit(o, n) ? 1 : -1);
            }
        }
    }

    private static void changesOfSpace() {
        for (int o : OWNERS) {
            refused("giveBack", o, 0, x -> x.giveBack(o));
            refused("free", o, 0, x -> x.free(o));
            for (int n : SPACES) {
                refused("reserve", o, n, x -> x.reserve(o, n));
                refused("use", o, n, x -> x.use(o, n));
                refused("release", o, n, x -> x.release(o, n));
            }
        }
    }

    private static void questions() {
        same("over()", built(), x -> x.over());
        for (int o : OWNERS) {
            same("total(" + o + ")", built(), x -> x.total(o));
            same("room(" + o + ")", built(), x -> x.room(o));
            same("below(" + o + ")", built(), x -> x.below(o));
            for (int n : SPACES) {
                same("blocker(" + o + ", " + n + ")", built(), x -> x.blocker(o, n));
            }
        }
    }

    /** A call that was done may change what it likes. */
    private static void refused(String name, int a, int b, ToIntFunction<QuotaTree> call) {
        int answer = call.applyAsInt(built());
        if (answer < 0) {
            came.add(name + " " + answer);
            same(name + " with " + a + ", " + b, built(), call);
        }
    }

    private static void same(String told, QuotaTree x, ToIntFunction<QuotaTree> call) {
        int answer = call.applyAsInt(x);
        check.due(told + ", answered " + answer + ", left all as it was", Seen.of(x).equals(before), true);
    }
}
