/** Promises 1 to 16: long runs of mixed calls, always the same ones, against the model. */
public final class LongRunsTest {
    private static final int RUNS = 1500;
    private static final int CALLS = 512;
    private static final int[] ODD = {-1, -1000, 1000, 1001, 5000, Integer.MIN_VALUE, Integer.MAX_VALUE};

    private static final Check check = new Check();
    private static long seed;

    public static void main(String[] args) {
        for (int run = 1; run <= RUNS; run++) {
            seed = run;
            oneRun(run);
        }
        check.end();
    }

    /** A fixed row of numbers (Knuth's multiplier), so that every run can be told again. */
    private static int pick(int bound) {
        seed = seed * 6364136223846793005L + 1442695040888963407L;
        return (int) ((seed >>> 33) % bound);
    }

    private static int anOwner() {
        return pick(25) == 0 ? oddOr(12) : pick(12);
    }

    private static int aReservation() {
        return pick(25) == 0 ? oddOr(10) : pick(10);
    }

    private static int oddOr(int edge) {
        int i = pick(ODD.length + 1);
        return i == ODD.length ? edge : ODD[i];
    }

    private static int aSpace(int scale) {
        return pick(25) == 0 ? oddOr(0) : pick(scale + 1);
    }

    private static void oneRun(int run) {
        QuotaTree x = new QuotaTree();
        Model m = new Model();
        // Small spaces meet their limits often, great ones meet the edges at 1000.
        int scale = run % 3 == 0 ? 8 : run % 3 == 1 ? 100 : 1000;
        for (int call = 1; call <= CALLS; call++) {
            check.part("run " + run + ", call " + call);
            oneCall(x, m, scale);
        }
    }

    private static void oneCall(QuotaTree x, Model m, int scale) {
        int o = anOwner();
        int p = anOwner();
        int r = aReservation();
        int n = aSpace(scale);
        int part = aSpace(1 + scale / 3);
        String on = o + ", " + n + ")";
        switch (pick(24)) {
            case 0, 1 -> check.due("add(" + on, x.add(o, n), m.add(o, n));
            case 2 -> check.due("remove(" + o + ")", x.remove(o), m.remove(o));
            case 3 -> check.due("setLimit(" + on, x.setLimit(o, n), m.setLimit(o, n));
            case 4, 5, 6 -> check.due("move(" + o + ", " + p + ")", x.move(o, p), m.move(o, p));
            case 7, 8, 9 -> check.due("reserve(" + o + ", " + part + ")", x.reserve(o, part), m.reserve(o, part));
            case 10, 11 -> check.due("use(" + r + ", " + part + ")", x.use(r, part), m.use(r, part));
            case 12 -> check.due("giveBack(" + r + ")", x.giveBack(r), m.giveBack(r));
            case 13, 14 -> check.due("release(" + o + ", " + part + ")", x.release(o, part), m.release(o, part));
            case 15 -> check.due("free(" + o + ")", x.free(o), m.free(o));
            case 16 -> {
                if (pick(8) == 0) {
                    check.due("recover()", x.recover(), m.recover());
                }
            }
            case 17, 18 -> check.due("total(" + o + ")", x.total(o), m.total(o));
            case 19 -> check.due("room(" + o + ")", x.room(o), m.room(o));
            case 20, 21 -> check.due("blocker(" + on, x.blocker(o, n), m.blocker(o, n));
            case 22 -> check.due("over()", x.over(), m.over());
            default -> check.due("below(" + o + ")", x.below(o), m.below(o));
        }
    }
}
