/** Promises 12 to 16: total, room, blocker, over, below; and that asking changes nothing. */
public final class QuestionsTest {
    private static final int BAD = QuotaTree.BAD;
    private static final int REFUSED = QuotaTree.REFUSED;
    private static final int[] NO_OWNERS = {-1, -12, 5, 11, 12, 31, 32, 33, 64, Integer.MIN_VALUE, Integer.MAX_VALUE};

    private static final Check check = new Check();

    public static void main(String[] args) {
        totalOrdinary();
        roomOrdinary();
        roomIsWhatReserveTakes();
        blockerOrdinary();
        overOrdinary();
        belowOrdinary();
        deepestTree();
        wrongOwners();
        check.end();
    }

    /** 0 has 1 and 4, 1 has 2 and 3. */
    private static QuotaTree sampleTree() {
        QuotaTree x = new QuotaTree();
        x.add(0, 100);
        x.add(1, 60);
        x.add(1, 50);
        x.add(0, 30);
        return x;
    }

    private static void totalOrdinary() {
        check.part("promise 12");
        QuotaTree x = sampleTree();
        x.reserve(2, 40);
        x.reserve(3, 30);
        x.reserve(1, 7);
        x.reserve(0, 3);
        check.due("total(0)", x.total(0), 80);
        check.due("total(1)", x.total(1), 77);
        check.due("total(2)", x.total(2), 40);
        check.due("total(3)", x.total(3), 30);
        check.due("total(4)", x.total(4), 0);
        x.use(0, 40);
        x.release(2, 10);
        x.use(1, 5);
        x.giveBack(1);
        check.due("total(0)", x.total(0), 55);
        check.due("total(1)", x.total(1), 52);
        check.due("total(2)", x.total(2), 40);
        check.due("total(3)", x.total(3), 5);
        x.free(2);
        check.due("total(1)", x.total(1), 42);
        check.due("total(1) asked again", x.total(1), 42);
    }

    private static void roomOrdinary() {
        check.part("promise 13");
        QuotaTree x = sampleTree();
        check.due("room(0)", x.room(0), 1000);
        check.due("room(1)", x.room(1), 100);
        check.due("room(2)", x.room(2), 60);
        check.due("room(4)", x.room(4), 30);
        x.reserve(2, 40);
        x.reserve(3, 50);
        check.due("room(2), the limit above is the nearer one", x.room(2), 10);
        check.due("room(3)", x.room(3), 0);
        check.due("room(1)", x.room(1), 10);
        check.due("room(0)", x.room(0), 910);
        x.setLimit(1, 20);
        check.due("room(1), over its limit", x.room(1), 0);
        check.due("room(2), below one over its limit", x.room(2), 0);
        x.setLimit(3, 0);
        x.setLimit(1, 1000);
        check.due("room(1), above one over its limit", x.room(1), 910);
        x.setLimit(0, 0);
        check.due("room(4)", x.room(4), 0);
        check.due("room(0)", x.room(0), 0);
        x.recover();
        x.setLimit(0, 1000);
        for (int r = 0; r < 10; r++) {
            x.reserve(0, 0);
        }
        check.due("room(2), when no reservation is free", x.room(2), 60);
    }

    private static void roomIsWhatReserveTakes() {
        check.part("promise 13, against reserve");
        for (int o = 0; o < 5; o++) {
            QuotaTree x = sampleTree();
            x.reserve(3, 45);
            x.reserve(4, 30);
            int room = x.room(o);
            if (room < 1000) {
                check.due("reserve(" + o + ", room + 1)", x.reserve(o, room + 1), REFUSED);
            }
            check.due("reserve(" + o + ", room)", x.reserve(o, room), 2);
            check.due("room(" + o + ")", x.room(o), 0);
        }
    }

    private static void blockerOrdinary() {
        check.part("promise 14");
        QuotaTree x = sampleTree();
        x.reserve(2, 40);
        x.reserve(3, 50);
        check.due("blocker(2, 0)", x.blocker(2, 0), BAD);
        check.due("blocker(2, 10)", x.blocker(2, 10), BAD);
        check.due("blocker(2, 11)", x.blocker(2, 11), 1);
        check.due("blocker(2, 20)", x.blocker(2, 20), 1);
        check.due("blocker(2, 21)", x.blocker(2, 21), 2);
        check.due("blocker(2, 1000)", x.blocker(2, 1000), 2);
        check.due("blocker(4, 30)", x.blocker(4, 30), BAD);
        check.due("blocker(0, 910)", x.blocker(0, 910), BAD);
        check.due("blocker(0, 911)", x.blocker(0, 911), 0);
        check.due("blocker(2, 1001)", x.blocker(2, 1001), BAD);
        check.due("blocker(2, -1)", x.blocker(2, -1), BAD);
        check.due("blocker(2, MIN)", x.blocker(2, Integer.MIN_VALUE), BAD);
        check.due("blocker(2, MAX)", x.blocker(2, Integer.MAX_VALUE), BAD);
        x.setLimit(1, 89);
        check.due("blocker(2, 0), the one above is over already", x.blocker(2, 0), 1);
        check.due("blocker(0, 0), one below is over", x.blocker(0, 0), BAD);
        check.due("blocker(4, 0), one beside is over", x.blocker(4, 0), BAD);
        check.due("blocker(2, -1), over already", x.blocker(2, -1), BAD);
        x.setLimit(0, 89);
        check.due("blocker(4, 0), owner 0 is over", x.blocker(4, 0), 0);
        check.due("blocker(3, 0), the nearest", x.blocker(3, 0), 1);
        check.due("blocker(3, 1), the nearest", x.blocker(3, 1), 3);
    }

    private static void overOrdinary() {
        check.part("promise 15");
        QuotaTree x = sampleTree();
        check.due("over()", x.over(), 0);
        x.reserve(2, 60);
        x.reserve(3, 40);
        x.reserve(4, 30);
        check.due("over(), all just full", x.over(), 0);
        x.setLimit(2, 59);
        check.due("over()", x.over(), 0b00100);
        x.setLimit(4, 0);
        check.due("over()", x.over(), 0b10100);
        x.setLimit(1, 99);
        x.setLimit(0, 129);
        check.due("over()", x.over(), 0b10111);
        x.use(0, 60);
        x.release(2, 1);
        check.due("over(), what waits counts", x.over(), 0b10111);
        x.free(2);
        check.due("over()", x.over(), 0b10000);
        x.giveBack(2);
        check.due("over()", x.over(), 0);
        x.setLimit(4, 0);
        check.due("remove(4)", x.remove(4), true);
        check.due("over(), with none of number 4", x.over(), 0);
    }

    private static void belowOrdinary() {
        check.part("promise 16");
        QuotaTree x = sampleTree();
        check.due("below(0)", x.below(0), 0b11111);
        check.due("below(1)", x.below(1), 0b01110);
        check.due("below(2)", x.below(2), 0b00100);
        check.due("below(3)", x.below(3), 0b01000);
        check.due("below(4)", x.below(4), 0b10000);
        x.move(1, 4);
        check.due("below(4)", x.below(4), 0b11110);
        check.due("below(1)", x.below(1), 0b01110);
        x.remove(2);
        check.due("below(4)", x.below(4), 0b11010);
        check.due("below(2)", x.below(2), 0);
    }

    private static void deepestTree() {
        check.part("promises 12 to 16, twelve owners in one line");
        QuotaTree x = new QuotaTree();
        for (int o = 1; o < 12; o++) {
            x.add(o - 1, 1000);
        }
        check.due("reserve(11, 600)", x.reserve(11, 600), 0);
        x.use(0, 500);
        x.release(11, 200);
        for (int o = 0; o < 12; o++) {
            check.due("total(" + o + ")", x.total(o), 600);
            check.due("room(" + o + ")", x.room(o), 400);
            check.due("below(" + o + ")", x.below(o), 0xFFF & ~((1 << o) - 1));
        }
        x.setLimit(0, 700);
        check.due("room(11)", x.room(11), 100);
        check.due("blocker(11, 101)", x.blocker(11, 101), 0);
        check.due("reserve(11, 101)", x.reserve(11, 101), REFUSED);
        x.setLimit(0, 599);
        x.setLimit(11, 599);
        check.due("over()", x.over(), 0x801);
        check.due("move(11, 0)", x.move(11, 0), 0);
        check.due("move(11, 10)", x.move(11, 10), 10);
        check.due("move(1, 11)", x.move(1, 11), BAD);
        check.due("free(0)", x.free(0), 200);
        check.due("over()", x.over(), 0);

        QuotaTree y = new QuotaTree();
        for (int o = 1; o < 11; o++) {
            y.add(o - 1, 1000);
        }
        y.add(0, 1000);
        y.reserve(11, 600);
        y.setLimit(1, 599);
        check.due("move(11, 10), refused far above", y.move(11, 10), REFUSED);
        y.setLimit(1, 600);
        check.due("move(11, 10)", y.move(11, 10), 10);
        check.due("total(1)", y.total(1), 600);
    }

    private static void wrongOwners() {
        check.part("promises 12 to 16, wrong owners");
        QuotaTree x = sampleTree();
        for (int o : NO_OWNERS) {
            check.due("total(" + o + ")", x.total(o), BAD);
            check.due("room(" + o + ")", x.room(o), BAD);
            check.due("blocker(" + o + ", 1000)", x.blocker(o, 1000), BAD);
            check.due("below(" + o + ")", x.below(o), 0);
        }
    }
}
