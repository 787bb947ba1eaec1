import java.util.ArrayList;
import java.util.Comparator;
import java.util.List;

/**
 * All that can be seen of an object. Looking uses the object up, so that two objects are compared
 * by looking at both of them; it takes some 420 calls.
 */
final class Seen {
    private static final int OWNERS = 12;
    private static final int RESERVATIONS = 10;

    private final QuotaTree tree;
    private final List<String> lines = new ArrayList<>();

    private Seen(QuotaTree tree) {
        this.tree = tree;
    }

    static List<String> of(QuotaTree tree) {
        Seen seen = new Seen(tree);
        seen.askQuestions();
        seen.useUpReservations();
        seen.freeEach();
        seen.findLimits();
        seen.takeFreeNumbers();
        seen.removeEach();
        return seen.lines;
    }

    private void line(String what, int answer) {
        lines.add(what + " " + answer);
    }

    private void askQuestions() {
        line("over", tree.over());
        for (int o = 0; o < OWNERS; o++) {
            line("below " + o, tree.below(o));
            line("total " + o, tree.total(o));
            line("room " + o, tree.room(o));
            line("used by " + o, tree.release(o, 0));
        }
    }

    private void useUpReservations() {
        for (int r = 0; r < RESERVATIONS; r++) {
            int left = tree.use(r, 0);
            line("left of " + r, left);
            line("left after use of all " + r, tree.use(r, left));
        }
    }

    /** From the leaves upwards, so that each answer is what waits at that owner alone. */
    private void freeEach() {
        for (int o : upwards()) {
            line("waiting at " + o, tree.free(o));
            int used = tree.release(o, 0);
            line("used by " + o, used);
            line("left after release of all " + o, tree.release(o, used));
            line("freed " + o, tree.free(o));
        }
    }

    private List<Integer> upwards() {
        int[] count = new int[OWNERS];
        List<Integer> owners = new ArrayList<>();
        for (int o = 0; o < OWNERS; o++) {
            count[o] = Integer.bitCount(tree.below(o));
            owners.add(o);
        }
        owners.sort(Comparator.comparing(o -> count[o]));
        return owners;
    }

    /** Nobody's total is above 0 now: blocker names o just when n is above o's limit. */
    private void findLimits() {
        for (int o = 0; o < OWNERS; o++) {
            int low = 0;
            int high = 1000;
            while (low < high) {
                int middle = (low + high + 1) / 2;
                if (tree.blocker(o, middle) == o) {
                    high = middle - 1;
                } else {
                    low = middle;
                }
            }
            line("limit of " + o, low);
        }
    }

    private void takeFreeNumbers() {
        for (int i = 0; i <= RESERVATIONS; i++) {
            line("next reservation", tree.reserve(0, 0));
        }
        for (int i = 0; i <= OWNERS; i++) {
            line("next owner", tree.add(0, 0));
        }
    }

    /** The owner of a reservation shows in whose removal takes it along. */
    private void removeEach() {
        for (int o : upwards()) {
            line("remove " + o, tree.remove(o) ? 1 : 0);
            for (int r = 0; r < RESERVATIONS; r++) {
                line("left of " + r, tree.use(r, 0));
            }
        }
    }
}
