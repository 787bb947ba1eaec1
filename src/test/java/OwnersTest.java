/** Promises 1 to 5: a new object, add, remove, setLimit, move. */
public final class OwnersTest {
    private static final int BAD = QuotaTree.BAD;
    private static final int FULL = QuotaTree.FULL;
    private static final int REFUSED = QuotaTree.REFUSED;
    private static final int[] NO_OWNERS = {-1, 12, 13, 32, 1000, Integer.MIN_VALUE, Integer.MAX_VALUE};
    private static final int[] NO_LIMITS = {-1, 1001, Integer.MIN_VALUE, Integer.MAX_VALUE};

    private static final Check check = new Check();

    public static void main(String[] args) {
        newObject();
        objectsAreApart();
        addAnswersLeastNumber();
        addEdges();
        addOrder();
        addStartsEmpty();
        removeOrdinary();
        removeRefusals();
        removeTakesEmptyReservations();
        setLimitOrdinary();
        setLimitWrong();
        moveOrdinary();
        moveBad();
        moveRefused();
        moveWithinOverfullTree();
        moveOfNothing();
        moveToSameParent();
        moveOrder();
        check.end();
    }

    private static void newObject() {
        check.part("promise 1");
        QuotaTree x = new QuotaTree();
        check.due("below(0)", x.below(0), 1);
        check.due("total(0)", x.total(0), 0);
        check.due("room(0)", x.room(0), 1000);
        check.due("over()", x.over(), 0);
        check.due("blocker(0, 1000)", x.blocker(0, 1000), BAD);
        check.due("free(0)", x.free(0), 0);
        check.due("recover()", x.recover(), 0);
        for (int o = 1; o < 12; o++) {
            check.due("below(" + o + ")", x.below(o), 0);
            check.due("total(" + o + ")", x.total(o), BAD);
        }
        for (int r = 0; r < 10; r++) {
            check.due("giveBack(" + r + ")", x.giveBack(r), BAD);
        }
    }

    private static void objectsAreApart() {
        check.part("promise 1, two objects");
        QuotaTree x = new QuotaTree();
        x.add(0, 5);
        x.reserve(0, 7);
        QuotaTree y = new QuotaTree();
        check.due("below(0)", y.below(0), 1);
        check.due("total(0)", y.total(0), 0);
        check.due("recover()", y.recover(), 0);
        check.due("total(0) of the first", x.total(0), 7);
    }

    private static void addAnswersLeastNumber() {
        check.part("promise 2, least number");
        QuotaTree x = new QuotaTree();
        check.due("add(0, 10)", x.add(0, 10), 1);
        check.due("add(1, 10)", x.add(1, 10), 2);
        check.due("add(0, 10)", x.add(0, 10), 3);
        check.due("add(3, 10)", x.add(3, 10), 4);
        check.due("below(1)", x.below(1), 0b00110);
        check.due("below(3)", x.below(3), 0b11000);
        check.due("remove(2)", x.remove(2), true);
        check.due("remove(4)", x.remove(4), true);
        check.due("add(3, 20)", x.add(3, 20), 2);
        check.due("below(3)", x.below(3), 0b01100);
        check.due("below(1)", x.below(1), 0b00010);
        check.due("room(2)", x.room(2), 10);
        check.due("add(0, 20)", x.add(0, 20), 4);
        check.due("room(4)", x.room(4), 20);
        check.due("add(0, 20)", x.add(0, 20), 5);
    }

    private static void addEdges() {
        check.part("promise 2, edges");
        QuotaTree x = new QuotaTree();
        check.due("add(0, 0)", x.add(0, 0), 1);
        check.due("add(0, 1000)", x.add(0, 1000), 2);
        check.due("room(1)", x.room(1), 0);
        check.due("room(2)", x.room(2), 1000);
        // A child's limit may be above its parent's.
        check.due("add(1, 1000)", x.add(1, 1000), 3);
        check.due("room(3)", x.room(3), 0);
        for (int limit : NO_LIMITS) {
            check.due("add(0, " + limit + ")", x.add(0, limit), BAD);
        }
        for (int parent : NO_OWNERS) {
            check.due("add(" + parent + ", 5)", x.add(parent, 5), BAD);
        }
        check.due("add(4, 5)", x.add(4, 5), BAD);
        check.due("add(11, 5)", x.add(11, 5), BAD);
        check.due("below(0)", x.below(0), 0b1111);
    }

    private static void addOrder() {
        check.part("promise 2, the thirteenth owner");
        QuotaTree x = new QuotaTree();
        for (int o = 1; o < 12; o++) {
            check.due("add(" + (o - 1) + ", 1000)", x.add(o - 1, 1000), o);
        }
        check.due("below(0)", x.below(0), 0xFFF);
        check.due("below(11)", x.below(11), 0x800);
        check.due("add(0, 0)", x.add(0, 0), FULL);
        check.due("add(11, 1000)", x.add(11, 1000), FULL);
        check.due("add(0, 1001)", x.add(0, 1001), BAD);
        check.due("add(0, -1)", x.add(0, -1), BAD);
        check.due("add(12, 5)", x.add(12, 5), BAD);
        check.due("add(-1, 5)", x.add(-1, 5), BAD);
        check.due("remove(10), 11 is below it", x.remove(10), false);
        check.due("remove(11)", x.remove(11), true);
        check.due("add(11, 5)", x.add(11, 5), BAD);
        check.due("add(0, 5)", x.add(0, 5), 11);
        check.due("add(0, 5)", x.add(0, 5), FULL);
    }

    private static void addStartsEmpty() {
        check.part("promise 2, a number used again");
        QuotaTree x = new QuotaTree();
        x.add(0, 50);
        x.reserve(1, 30);
        x.use(0, 20);
        x.release(1, 20);
        x.free(1);
        x.giveBack(0);
        check.due("remove(1)", x.remove(1), true);
        check.due("add(0, 40)", x.add(0, 40), 1);
        check.due("total(1)", x.total(1), 0);
        check.due("room(1)", x.room(1), 40);
        check.due("release(1, 1)", x.release(1, 1), BAD);
        check.due("free(1)", x.free(1), 0);
    }

    private static void removeOrdinary() {
        check.part("promise 3");
        QuotaTree x = new QuotaTree();
        x.add(0, 100);
        x.add(1, 100);
        check.due("remove(1) with one below", x.remove(1), false);
        check.due("below(0)", x.below(0), 0b111);
        check.due("remove(2)", x.remove(2), true);
        check.due("below(0)", x.below(0), 0b011);
        check.due("total(2)", x.total(2), BAD);
        check.due("remove(2) again", x.remove(2), false);
        check.due("remove(1)", x.remove(1), true);
        check.due("below(0)", x.below(0), 0b001);
    }

    private static void removeRefusals() {
        check.part("promise 3, refusals");
        QuotaTree x = new QuotaTree();
        check.due("remove(0)", x.remove(0), false);
        for (int o : NO_OWNERS) {
            check.due("remove(" + o + ")", x.remove(o), false);
        }
        x.add(0, 100);
        x.reserve(1, 1);
        check.due("remove(1) with a reservation", x.remove(1), false);
        x.use(0, 1);
        check.due("remove(1) with use", x.remove(1), false);
        x.release(1, 1);
        check.due("remove(1) with waiting", x.remove(1), false);
        check.due("total(1)", x.total(1), 1);
        check.due("use(0, 0)", x.use(0, 0), 0);
        x.free(1);
        check.due("remove(1)", x.remove(1), true);
        check.due("below(0)", x.below(0), 1);
        check.due("remove(0)", x.remove(0), false);
        check.due("total(0)", x.total(0), 0);
    }

    private static void removeTakesEmptyReservations() {
        check.part("promise 3, reservations for 0");
        QuotaTree x = new QuotaTree();
        x.add(0, 100);
        x.add(0, 100);
        x.reserve(1, 0);
        x.reserve(2, 0);
        x.reserve(1, 0);
        x.reserve(0, 0);
        check.due("remove(0)", x.remove(0), false);
        check.due("use(3, 0)", x.use(3, 0), 0);
        check.due("remove(1)", x.remove(1), true);
        check.due("use(0, 0)", x.use(0, 0), BAD);
        check.due("giveBack(2)", x.giveBack(2), BAD);
        check.due("use(1, 0)", x.use(1, 0), 0);
        check.due("use(3, 0)", x.use(3, 0), 0);
        check.due("reserve(2, 4)", x.reserve(2, 4), 0);
        check.due("reserve(2, 5)", x.reserve(2, 5), 2);
        check.due("recover()", x.recover(), 4);

        QuotaTree y = new QuotaTree();
        y.add(0, 10);
        y.add(1, 10);
        y.reserve(1, 0);
        check.due("remove(1) with one below keeps its reservation", y.remove(1), false);
        check.due("use(0, 0)", y.use(0, 0), 0);
    }

    private static void setLimitOrdinary() {
        check.part("promise 4");
        QuotaTree x = new QuotaTree();
        x.add(0, 100);
        x.reserve(1, 60);
        check.due("setLimit(1, 59)", x.setLimit(1, 59), true);
        check.due("over()", x.over(), 0b10);
        check.due("total(1)", x.total(1), 60);
        check.due("setLimit(1, 60)", x.setLimit(1, 60), true);
        check.due("over()", x.over(), 0);
        check.due("setLimit(1, 0)", x.setLimit(1, 0), true);
        check.due("over()", x.over(), 0b10);
        check.due("setLimit(1, 1000)", x.setLimit(1, 1000), true);
        check.due("room(1)", x.room(1), 940);
        check.due("setLimit(0, 61)", x.setLimit(0, 61), true);
        check.due("room(1)", x.room(1), 1);
    }

    private static void setLimitWrong() {
        check.part("promise 4, wrong inputs");
        QuotaTree x = new QuotaTree();
        x.add(0, 100);
        for (int limit : NO_LIMITS) {
            check.due("setLimit(1, " + limit + ")", x.setLimit(1, limit), false);
            check.due("room(1)", x.room(1), 100);
        }
        for (int o : NO_OWNERS) {
            check.due("setLimit(" + o + ", 5)", x.setLimit(o, 5), false);
        }
        check.due("setLimit(2, 5)", x.setLimit(2, 5), false);
        check.due("room(0)", x.room(0), 1000);
    }

    private static void moveOrdinary() {
        check.part("promise 5");
        QuotaTree x = new QuotaTree();
        x.add(0, 100);
        x.add(1, 100);
        x.add(2, 100);
        x.add(0, 100);
        x.reserve(3, 40);
        x.reserve(2, 10);
        x.use(1, 10);
        x.release(2, 4);
        check.due("move(2, 4)", x.move(2, 4), 4);
        check.due("below(4)", x.below(4), 0b11100);
        check.due("below(1)", x.below(1), 0b00010);
        check.due("total(4)", x.total(4), 50);
        check.due("total(2)", x.total(2), 50);
        check.due("total(1)", x.total(1), 0);
        check.due("total(0)", x.total(0), 50);
        check.due("move(3, 0)", x.move(3, 0), 0);
        check.due("total(4)", x.total(4), 10);
        check.due("below(2)", x.below(2), 0b00100);
    }

    private static void moveBad() {
        check.part("promise 5, BAD");
        QuotaTree x = new QuotaTree();
        x.add(0, 100);
        x.add(1, 100);
        x.add(2, 100);
        check.due("move(0, 1)", x.move(0, 1), BAD);
        check.due("move(0, 0)", x.move(0, 0), BAD);
        check.due("move(1, 1)", x.move(1, 1), BAD);
        check.due("move(1, 2)", x.move(1, 2), BAD);
        check.due("move(1, 3)", x.move(1, 3), BAD);
        check.due("move(4, 0)", x.move(4, 0), BAD);
        check.due("move(1, 4)", x.move(1, 4), BAD);
        for (int o : NO_OWNERS) {
            check.due("move(" + o + ", 0)", x.move(o, 0), BAD);
            check.due("move(1, " + o + ")", x.move(1, o), BAD);
            check.due("move(" + o + ", " + o + ")", x.move(o, o), BAD);
        }
        check.due("below(1)", x.below(1), 0b1110);
        check.due("below(2)", x.below(2), 0b1100);
    }

    private static void moveRefused() {
        check.part("promise 5, REFUSED");
        QuotaTree x = new QuotaTree();
        x.add(0, 100);
        x.add(0, 50);
        x.add(2, 100);
        x.reserve(1, 30);
        x.reserve(3, 21);
        check.due("move(1, 3), who is above parent is too full", x.move(1, 3), REFUSED);
        check.due("move(1, 2), parent is too full", x.move(1, 2), REFUSED);
        check.due("below(0)", x.below(0), 0b1111);
        check.due("below(2)", x.below(2), 0b1100);
        check.due("total(2)", x.total(2), 21);
        x.setLimit(2, 51);
        check.due("move(1, 3), just enough", x.move(1, 3), 3);
        check.due("total(2)", x.total(2), 51);
        // What is moved need not keep to its own limit.
        x.setLimit(1, 0);
        check.due("move(1, 0)", x.move(1, 0), 0);
        check.due("over()", x.over(), 0b0010);
    }

    private static void moveWithinOverfullTree() {
        check.part("promise 5, a total that does not grow");
        QuotaTree x = new QuotaTree();
        x.add(0, 100);
        x.add(1, 100);
        x.add(1, 100);
        x.reserve(2, 60);
        x.setLimit(1, 10);
        x.setLimit(0, 20);
        check.due("over()", x.over(), 0b0011);
        check.due("move(2, 3)", x.move(2, 3), 3);
        check.due("move(2, 1)", x.move(2, 1), 1);
        check.due("move(2, 0)", x.move(2, 0), 0);
        check.due("move(2, 1), now it would grow", x.move(2, 1), REFUSED);
        check.due("total(1)", x.total(1), 0);
        check.due("over()", x.over(), 0b0001);
    }

    private static void moveOfNothing() {
        check.part("promise 5, nothing is moved");
        QuotaTree x = new QuotaTree();
        x.add(0, 100);
        x.add(0, 100);
        x.reserve(1, 60);
        x.reserve(2, 0);
        x.setLimit(1, 10);
        check.due("move(2, 1)", x.move(2, 1), 1);
        check.due("below(1)", x.below(1), 0b110);
    }

    private static void moveToSameParent() {
        check.part("promise 5, the same parent");
        QuotaTree x = new QuotaTree();
        x.add(0, 100);
        x.add(1, 100);
        x.reserve(2, 60);
        check.due("move(2, 1)", x.move(2, 1), 1);
        check.due("total(1)", x.total(1), 60);
        x.setLimit(1, 10);
        check.due("move(2, 1)", x.move(2, 1), 1);
        check.due("below(1)", x.below(1), 0b110);
    }

    private static void moveOrder() {
        check.part("promise 5, BAD before REFUSED");
        QuotaTree x = new QuotaTree();
        x.add(0, 100);
        x.add(1, 100);
        x.reserve(1, 60);
        x.setLimit(2, 0);
        check.due("move(1, 2)", x.move(1, 2), BAD);
        check.due("move(1, 1)", x.move(1, 1), BAD);
        check.due("move(0, 2)", x.move(0, 2), BAD);
    }
}
