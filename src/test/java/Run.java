/** A new object, each of whose calls is told with the answer that is due. */
final class Run {
    private static final int MOST_CALLS = 512;

    private final Check check;
    private final QuotaTree tree = new QuotaTree();
    private int calls = 0;

    Run(Check check) {
        this.check = check;
    }

    void add(int parent, int limit, int due) {
        told("add(" + parent + ", " + limit + ")", tree.add(parent, limit), due);
    }

    void remove(int o, boolean due) {
        told("remove(" + o + ")", tree.remove(o) ? 1 : 0, due ? 1 : 0);
    }

    void setLimit(int o, int limit, boolean due) {
        told("setLimit(" + o + ", " + limit + ")", tree.setLimit(o, limit) ? 1 : 0, due ? 1 : 0);
    }

    void move(int o, int parent, int due) {
        told("move(" + o + ", " + parent + ")", tree.move(o, parent), due);
    }

    void reserve(int o, int n, int due) {
        told("reserve(" + o + ", " + n + ")", tree.reserve(o, n), due);
    }

    void use(int r, int n, int due) {
        told("use(" + r + ", " + n + ")", tree.use(r, n), due);
    }

    void giveBack(int r, int due) {
        told("giveBack(" + r + ")", tree.giveBack(r), due);
    }

    void release(int o, int n, int due) {
        told("release(" + o + ", " + n + ")", tree.release(o, n), due);
    }

    void free(int o, int due) {
        told("free(" + o + ")", tree.free(o), due);
    }

    void recover(int due) {
        told("recover()", tree.recover(), due);
    }

    void total(int o, int due) {
        told("total(" + o + ")", tree.total(o), due);
    }

    void room(int o, int due) {
        told("room(" + o + ")", tree.room(o), due);
    }

    void blocker(int o, int n, int due) {
        told("blocker(" + o + ", " + n + ")", tree.blocker(o, n), due);
    }

    void over(int due) {
        told("over()", tree.over(), due);
    }

    void below(int o, int due) {
        told("below(" + o + ")", tree.below(o), due);
    }

    /** The limit shows in where blocker begins to name the owner; its total must not be above the limit. */
    void limit(int o, int total, int due) {
        int room = due - total;
        told("blocker(" + o + ", " + room + ") names another", tree.blocker(o, room) != o ? 1 : 0, 1);
        if (room < 1000) {
            blocker(o, room + 1, o);
        }
    }

    int calls() {
        return calls;
    }

    private void told(String call, int got, int due) {
        calls++;
        check.due("call " + calls + ", " + call, got, due);
        if (calls == MOST_CALLS + 1) {
            check.due("the test makes more calls than are promised: " + call, calls, MOST_CALLS);
        }
    }
}
