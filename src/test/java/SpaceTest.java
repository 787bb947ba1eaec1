/** Promises 6 to 11: reserve, use, giveBack, release, free, recover. */
public final class SpaceTest {
    private static final int BAD = QuotaTree.BAD;
    private static final int FULL = QuotaTree.FULL;
    private static final int REFUSED = QuotaTree.REFUSED;
    private static final int[] FAR_OFF = {-1, -2, 12, 32, 1001, Integer.MIN_VALUE, Integer.MAX_VALUE};

    private static final Check check = new Check();

    public static void main(String[] args) {
        reserveOrdinary();
        reserveEdges();
        reserveRefused();
        reserveOrder();
        useOrdinary();
        useWrong();
        giveBackOrdinary();
        giveBackWrong();
        releaseOrdinary();
        releaseWrong();
        freeOrdinary();
        freeWrong();
        recoverOrdinary();
        check.end();
    }

    private static void reserveOrdinary() {
        check.part("promise 6");
        QuotaTree x = new QuotaTree();
        x.add(0, 100);
        check.due("reserve(1, 10)", x.reserve(1, 10), 0);
        check.due("reserve(0, 20)", x.reserve(0, 20), 1);
        check.due("reserve(1, 30)", x.reserve(1, 30), 2);
        check.due("total(1)", x.total(1), 40);
        check.due("total(0)", x.total(0), 60);
        check.due("giveBack(1)", x.giveBack(1), 20);
        check.due("giveBack(0)", x.giveBack(0), 10);
        check.due("reserve(1, 5)", x.reserve(1, 5), 0);
        check.due("reserve(1, 6)", x.reserve(1, 6), 1);
        check.due("reserve(1, 7)", x.reserve(1, 7), 3);
        check.due("giveBack(2)", x.giveBack(2), 30);
        check.due("total(1)", x.total(1), 18);
    }

    private static void reserveEdges() {
        check.part("promise 6, edges");
        QuotaTree x = new QuotaTree();
        check.due("reserve(0, 1000)", x.reserve(0, 1000), 0);
        check.due("reserve(0, 0)", x.reserve(0, 0), 1);
        check.due("reserve(0, 1)", x.reserve(0, 1), REFUSED);
        check.due("reserve(0, 1000)", x.reserve(0, 1000), REFUSED);
        check.due("reserve(0, 1001)", x.reserve(0, 1001), BAD);
        check.due("reserve(0, -1)", x.reserve(0, -1), BAD);
        check.due("reserve(0, MIN)", x.reserve(0, Integer.MIN_VALUE), BAD);
        check.due("reserve(0, MAX)", x.reserve(0, Integer.MAX_VALUE), BAD);
        check.due("reserve(1, 0)", x.reserve(1, 0), BAD);
        for (int o : FAR_OFF) {
            check.due("reserve(" + o + ", 0)", x.reserve(o, 0), BAD);
        }
        check.due("total(0)", x.total(0), 1000);
        check.due("recover()", x.recover(), 2);
    }

    private static void reserveRefused() {
        check.part("promise 6, REFUSED");
        QuotaTree x = new QuotaTree();
        x.add(0, 100);
        x.add(1, 60);
        x.add(1, 80);
        check.due("reserve(2, 61), its own limit", x.reserve(2, 61), REFUSED);
        check.due("reserve(2, 60)", x.reserve(2, 60), 0);
        check.due("reserve(3, 41), the limit above", x.reserve(3, 41), REFUSED);
        check.due("reserve(3, 40)", x.reserve(3, 40), 1);
        check.due("reserve(1, 1)", x.reserve(1, 1), REFUSED);
        check.due("reserve(0, 1), beside the full ones", x.reserve(0, 1), 2);
        check.due("total(0)", x.total(0), 101);
        // Used and waiting space holds room just as reserved space does.
        x.use(0, 60);
        check.due("reserve(2, 1) after use", x.reserve(2, 1), REFUSED);
        x.release(2, 60);
        check.due("reserve(2, 1) with all waiting", x.reserve(2, 1), REFUSED);
        x.free(2);
        check.due("reserve(2, 1) after free", x.reserve(2, 1), 3);
        x.setLimit(0, 0);
        check.due("reserve(2, 0) below one over its limit", x.reserve(2, 0), 4);
        check.due("reserve(2, 1) below one over its limit", x.reserve(2, 1), REFUSED);
        // An owner below that is over its limit does not count for those above.
        x.setLimit(0, 1000);
        x.setLimit(3, 0);
        check.due("reserve(1, 5) above one over its limit", x.reserve(1, 5), 5);
    }

    private static void reserveOrder() {
        check.part("promise 6, the eleventh reservation");
        QuotaTree x = new QuotaTree();
        x.add(0, 0);
        for (int r = 0; r < 9; r++) {
            check.due("reserve(0, 0)", x.reserve(0, 0), r);
        }
        check.due("reserve(1, 1), REFUSED with nine", x.reserve(1, 1), REFUSED);
        check.due("reserve(1, 0), the tenth", x.reserve(1, 0), 9);
        check.due("reserve(0, 0)", x.reserve(0, 0), FULL);
        check.due("reserve(0, 1000)", x.reserve(0, 1000), FULL);
        check.due("reserve(1, 1), FULL before REFUSED", x.reserve(1, 1), FULL);
        check.due("reserve(2, 0), BAD before FULL", x.reserve(2, 0), BAD);
        check.due("reserve(0, 1001), BAD before FULL", x.reserve(0, 1001), BAD);
        check.due("reserve(1, -1), BAD before FULL", x.reserve(1, -1), BAD);
        check.due("use(4, 0)", x.use(4, 0), 0);
        check.due("reserve(0, 0), an emptied one still counts", x.reserve(0, 0), FULL);
        check.due("giveBack(4)", x.giveBack(4), 0);
        check.due("reserve(0, 0)", x.reserve(0, 0), 4);
        check.due("reserve(0, 0)", x.reserve(0, 0), FULL);
    }

    private static void useOrdinary() {
        check.part("promise 7");
        QuotaTree x = new QuotaTree();
        x.add(0, 100);
        x.reserve(1, 50);
        x.reserve(0, 9);
        check.due("use(0, 20)", x.use(0, 20), 30);
        check.due("total(1)", x.total(1), 50);
        check.due("use(0, 0)", x.use(0, 0), 30);
        check.due("use(0, 31)", x.use(0, 31), BAD);
        check.due("use(0, 30)", x.use(0, 30), 0);
        check.due("use(0, 1)", x.use(0, 1), BAD);
        check.due("use(0, 0), it is still there", x.use(0, 0), 0);
        check.due("use(1, 9)", x.use(1, 9), 0);
        check.due("total(1)", x.total(1), 50);
        check.due("total(0)", x.total(0), 59);
        check.due("release(1, 50), owner 1 uses all of it", x.release(1, 50), 0);
        check.due("release(0, 9)", x.release(0, 9), 0);
        check.due("giveBack(0)", x.giveBack(0), 0);

        // Using what is reserved is not refused when a limit has sunk since.
        QuotaTree y = new QuotaTree();
        y.reserve(0, 10);
        y.setLimit(0, 0);
        check.due("use(0, 10) over the limit", y.use(0, 10), 0);
    }

    private static void useWrong() {
        check.part("promise 7, wrong inputs");
        QuotaTree x = new QuotaTree();
        x.reserve(0, 50);
        check.due("use(0, -1)", x.use(0, -1), BAD);
        check.due("use(0, 51)", x.use(0, 51), BAD);
        check.due("use(0, MIN)", x.use(0, Integer.MIN_VALUE), BAD);
        check.due("use(0, MAX)", x.use(0, Integer.MAX_VALUE), BAD);
        check.due("use(1, 0)", x.use(1, 0), BAD);
        check.due("use(9, 0)", x.use(9, 0), BAD);
        check.due("use(10, 0)", x.use(10, 0), BAD);
        for (int r : FAR_OFF) {
            check.due("use(" + r + ", 0)", x.use(r, 0), BAD);
        }
        check.due("release(0, 1), nothing is used", x.release(0, 1), BAD);
        check.due("giveBack(0), all is left", x.giveBack(0), 50);
        check.due("use(0, 0), it is gone", x.use(0, 0), BAD);
    }

    private static void giveBackOrdinary() {
        check.part("promise 8");
        QuotaTree x = new QuotaTree();
        x.add(0, 100);
        x.reserve(1, 50);
        x.reserve(1, 7);
        x.use(0, 20);
        check.due("giveBack(0)", x.giveBack(0), 30);
        check.due("total(1)", x.total(1), 27);
        check.due("total(0)", x.total(0), 27);
        check.due("giveBack(0) again", x.giveBack(0), BAD);
        check.due("giveBack(1)", x.giveBack(1), 7);
        check.due("release(1, 20), what is used stays", x.release(1, 20), 0);
        check.due("reserve(1, 0)", x.reserve(1, 0), 0);
        check.due("giveBack(0), for 0", x.giveBack(0), 0);
        check.due("giveBack(0) again", x.giveBack(0), BAD);
    }

    private static void giveBackWrong() {
        check.part("promise 8, wrong inputs");
        QuotaTree x = new QuotaTree();
        x.reserve(0, 50);
        check.due("giveBack(1)", x.giveBack(1), BAD);
        check.due("giveBack(9)", x.giveBack(9), BAD);
        check.due("giveBack(10)", x.giveBack(10), BAD);
        for (int r : FAR_OFF) {
            check.due("giveBack(" + r + ")", x.giveBack(r), BAD);
        }
        check.due("total(0)", x.total(0), 50);
    }

    private static void releaseOrdinary() {
        check.part("promise 9");
        QuotaTree x = new QuotaTree();
        x.add(0, 100);
        x.reserve(1, 50);
        x.use(0, 40);
        check.due("release(1, 15)", x.release(1, 15), 25);
        check.due("total(1)", x.total(1), 50);
        check.due("release(1, 0)", x.release(1, 0), 25);
        check.due("release(1, 26)", x.release(1, 26), BAD);
        check.due("release(1, 25)", x.release(1, 25), 0);
        check.due("release(1, 1)", x.release(1, 1), BAD);
        check.due("release(1, 0)", x.release(1, 0), 0);
        check.due("total(1)", x.total(1), 50);
        check.due("room(1)", x.room(1), 50);
        check.due("free(1)", x.free(1), 40);
    }

    private static void releaseWrong() {
        check.part("promise 9, wrong inputs");
        QuotaTree x = new QuotaTree();
        x.add(0, 100);
        x.reserve(1, 50);
        x.use(0, 40);
        check.due("release(1, -1)", x.release(1, -1), BAD);
        check.due("release(1, 41)", x.release(1, 41), BAD);
        check.due("release(1, MIN)", x.release(1, Integer.MIN_VALUE), BAD);
        check.due("release(1, MAX)", x.release(1, Integer.MAX_VALUE), BAD);
        check.due("release(0, 1), used below and not by 0", x.release(0, 1), BAD);
        check.due("release(0, 0)", x.release(0, 0), 0);
        check.due("release(2, 0)", x.release(2, 0), BAD);
        for (int o : FAR_OFF) {
            check.due("release(" + o + ", 0)", x.release(o, 0), BAD);
        }
        check.due("free(0), nothing waits", x.free(0), 0);
        check.due("release(1, 40)", x.release(1, 40), 0);
    }

    private static void freeOrdinary() {
        check.part("promise 10");
        QuotaTree x = new QuotaTree();
        x.add(0, 500);
        x.add(1, 500);
        x.add(0, 500);
        for (int o = 0; o < 4; o++) {
            x.reserve(o, 100);
            x.use(o, 50);
            x.release(o, 10 + o);
        }
        check.due("free(2)", x.free(2), 12);
        check.due("free(2) again", x.free(2), 0);
        check.due("total(2)", x.total(2), 88);
        check.due("total(1)", x.total(1), 188);
        check.due("free(1)", x.free(1), 11);
        check.due("total(0)", x.total(0), 377);
        check.due("release(2, 5)", x.release(2, 5), 33);
        check.due("free(0)", x.free(0), 10 + 5 + 13);
        check.due("total(0)", x.total(0), 349);
        check.due("total(3)", x.total(3), 87);
        check.due("free(0) again", x.free(0), 0);
        check.due("release(3, 0), what is used stays", x.release(3, 0), 37);
        check.due("giveBack(3), what is reserved stays", x.giveBack(3), 50);
    }

    private static void freeWrong() {
        check.part("promise 10, wrong inputs");
        QuotaTree x = new QuotaTree();
        x.reserve(0, 5);
        x.use(0, 5);
        x.release(0, 5);
        check.due("free(1)", x.free(1), BAD);
        check.due("free(11)", x.free(11), BAD);
        for (int o : FAR_OFF) {
            check.due("free(" + o + ")", x.free(o), BAD);
        }
        check.due("free(0)", x.free(0), 5);
    }

    private static void recoverOrdinary() {
        check.part("promise 11");
        QuotaTree x = new QuotaTree();
        x.add(0, 100);
        check.due("recover()", x.recover(), 0);
        x.reserve(1, 50);
        x.reserve(0, 20);
        x.reserve(0, 0);
        x.reserve(1, 30);
        x.use(0, 10);
        x.use(3, 30);
        x.release(1, 5);
        x.giveBack(1);
        check.due("recover(), those for 0 count", x.recover(), 3);
        check.due("total(1), used and waiting stay", x.total(1), 40);
        check.due("total(0)", x.total(0), 40);
        check.due("recover() again", x.recover(), 0);
        for (int r = 0; r < 10; r++) {
            check.due("giveBack(" + r + ")", x.giveBack(r), BAD);
        }
        check.due("release(1, 35)", x.release(1, 35), 0);
        check.due("free(1)", x.free(1), 40);
        for (int r = 0; r < 10; r++) {
            check.due("reserve(1, 1)", x.reserve(1, 1), r);
        }
        check.due("recover() of ten", x.recover(), 10);
        check.due("total(0)", x.total(0), 0);
        check.due("reserve(1, 100)", x.reserve(1, 100), 0);
    }
}
