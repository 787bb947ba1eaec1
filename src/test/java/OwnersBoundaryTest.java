/** Each sentence of "Terms" and of promises 1 to 5 that names a boundary case, one test for each. */
public final class OwnersBoundaryTest {
    private static final int BAD = QuotaTree.BAD;
    private static final int FULL = QuotaTree.FULL;
    private static final int REFUSED = QuotaTree.REFUSED;

    private static final Check check = new Check();

    public static void main(String[] args) {
        terms();
        newObject();
        add();
        remove();
        setLimit();
        moveBad();
        moveRefused();
        moveDone();
        check.end();
    }

    private static Run begin(String sentence) {
        check.part(sentence);
        return new Run(check);
    }

    private static void fillOwners(Run x) {
        for (int o = 1; o < 12; o++) {
            x.add(0, 1000, o);
        }
    }

    private static void terms() {
        atMostTwelveOwners();
        ownerZeroIsAlwaysThere();
        everyOtherHasParent();
        totalOfUsed();
        totalOfWaiting();
        totalOfReserved();
        totalOfBelowOnly();
    }

    private static void atMostTwelveOwners() {
        Run x = begin("terms: at most twelve OWNERS, with numbers 0 .. 11");
        fillOwners(x);
        x.below(0, 0xFFF);
        x.below(11, 0x800);
        x.below(12, 0);
        x.below(-1, 0);
        x.add(0, 0, FULL);
        x.below(0, 0xFFF);
    }

    private static void ownerZeroIsAlwaysThere() {
        Run x = begin("terms: owner 0 is always there");
        x.remove(0, false);
        x.below(0, 1);
        x.add(0, 5, 1);
        x.remove(1, true);
        x.setLimit(0, 0, true);
        x.recover(0);
        x.remove(0, false);
        x.below(0, 1);
        x.total(0, 0);
    }

    private static void everyOtherHasParent() {
        Run x = begin("terms: every other one has a PARENT");
        x.add(0, 10, 1);
        x.add(1, 10, 2);
        x.add(2, 10, 3);
        x.below(0, 0b1111);
        x.below(1, 0b1110);
        x.below(2, 0b1100);
        x.below(3, 0b1000);
        x.move(3, 1, 1);
        x.below(2, 0b0100);
        x.below(1, 0b1110);
    }

    private static void totalOfUsed() {
        Run x = begin("terms: TOTAL is what it and all below use");
        lineOfThree(x);
        x.reserve(2, 7, 0);
        x.use(0, 7, 0);
        x.giveBack(0, 0);
        totalsOfLine(x, 7);
    }

    private static void totalOfWaiting() {
        Run x = begin("terms: TOTAL is what it and all below have waiting");
        lineOfThree(x);
        x.reserve(2, 7, 0);
        x.use(0, 7, 0);
        x.giveBack(0, 0);
        x.release(2, 7, 0);
        totalsOfLine(x, 7);
    }

    private static void totalOfReserved() {
        Run x = begin("terms: TOTAL is what it and all below have reserved");
        lineOfThree(x);
        x.reserve(2, 7, 0);
        totalsOfLine(x, 7);
    }

    /** 0, 1 and 2 in a line; 3 beside them. */
    private static void lineOfThree(Run x) {
        x.add(0, 100, 1);
        x.add(1, 100, 2);
        x.add(0, 100, 3);
    }

    private static void totalsOfLine(Run x, int due) {
        x.total(0, due);
        x.total(1, due);
        x.total(2, due);
        x.total(3, 0);
    }

    private static void totalOfBelowOnly() {
        Run x = begin("terms: TOTAL is of it and those below, of nobody above");
        lineOfThree(x);
        x.reserve(0, 30, 0);
        x.use(0, 20, 10);
        x.release(0, 10, 10);
        x.total(0, 30);
        x.total(1, 0);
        x.total(2, 0);
        x.total(3, 0);
    }

    private static void newObject() {
        newObjectHasOwnerZeroOnly();
        newObjectHasLimitThousand();
        newObjectIsEmpty();
        newObjectBesideAnother();
    }

    private static void newObjectHasOwnerZeroOnly() {
        Run x = begin("promise 1: owner 0, and no other");
        x.below(0, 1);
        for (int o = 1; o < 12; o++) {
            x.below(o, 0);
            x.total(o, BAD);
            x.room(o, BAD);
            x.free(o, BAD);
            x.release(o, 0, BAD);
            x.remove(o, false);
        }
    }

    private static void newObjectHasLimitThousand() {
        Run x = begin("promise 1: the limit 1000");
        x.room(0, 1000);
        x.blocker(0, 1000, BAD);
        x.reserve(0, 999, 0);
        x.blocker(0, 1, BAD);
        x.blocker(0, 2, 0);
        x.reserve(0, 2, REFUSED);
        x.reserve(0, 1, 1);
        x.reserve(0, 1, REFUSED);
        x.over(0);
    }

    private static void newObjectIsEmpty() {
        Run x = begin("promise 1: nothing is used, waits or is reserved");
        x.total(0, 0);
        x.release(0, 1, BAD);
        x.release(0, 0, 0);
        x.free(0, 0);
        for (int r = 0; r < 10; r++) {
            x.use(r, 0, BAD);
            x.giveBack(r, BAD);
        }
        x.recover(0);
        x.over(0);
    }

    private static void newObjectBesideAnother() {
        Run x = begin("promise 1: one object knows nothing of another that is used in turn with it");
        Run y = new Run(check);
        x.add(0, 10, 1);
        y.add(0, 20, 1);
        x.add(0, 30, 2);
        y.add(1, 40, 2);
        x.below(1, 0b010);
        y.below(1, 0b110);
        x.limit(1, 0, 10);
        y.limit(1, 0, 20);
        x.reserve(1, 3, 0);
        y.reserve(2, 5, 0);
        x.use(0, 0, 3);
        y.use(0, 0, 5);
        x.total(1, 3);
        x.total(2, 0);
        y.total(2, 5);
        x.use(0, 2, 1);
        y.use(0, 4, 1);
        x.release(1, 1, 1);
        y.release(2, 3, 1);
        x.free(0, 1);
        y.free(0, 3);
        x.recover(1);
        y.giveBack(0, 1);
        x.total(0, 1);
        y.total(0, 1);
    }

    private static void add() {
        addTakesLeastNumber();
        addTakesLastNumberAgain();
        addTakesNumberAsNew();
        addBelowNobody();
        addBelowRemoved();
        addLimitEdges();
        addLimitWrong();
        addFull();
        addBadBeforeFull();
    }

    private static void addTakesLeastNumber() {
        Run x = begin("promise 2: the least number that none has");
        fillOwners(x);
        x.remove(7, true);
        x.remove(3, true);
        x.remove(5, true);
        x.remove(1, true);
        x.add(0, 1, 1);
        x.add(0, 1, 3);
        x.remove(1, true);
        x.add(0, 1, 1);
        x.add(0, 1, 5);
        x.add(0, 1, 7);
        x.add(0, 1, FULL);
    }

    private static void addTakesLastNumberAgain() {
        Run x = begin("promise 2: the least number, when it is the last one");
        fillOwners(x);
        for (int i = 0; i < 3; i++) {
            x.remove(11, true);
            x.add(10, 1, 11);
            x.below(10, 0xC00);
        }
    }

    private static void addTakesNumberAsNew() {
        Run x = begin("promise 2: a number that is taken again is a new owner");
        x.add(0, 50, 1);
        x.add(0, 60, 2);
        x.reserve(1, 30, 0);
        x.reserve(1, 0, 1);
        x.use(0, 30, 0);
        x.release(1, 30, 0);
        x.free(1, 30);
        x.remove(1, true);
        x.add(2, 40, 1);
        x.below(0, 0b111);
        x.below(2, 0b110);
        x.total(1, 0);
        x.limit(1, 0, 40);
        x.release(1, 1, BAD);
        x.free(1, 0);
        x.recover(0);
    }

    private static void addBelowNobody() {
        Run x = begin("promise 2: BAD when there is no owner parent");
        for (int parent : Wrong.OWNERS) {
            x.add(parent, 5, BAD);
        }
        for (int parent = 1; parent < 12; parent++) {
            x.add(parent, 5, BAD);
        }
        x.below(0, 1);
        x.add(0, 5, 1);
    }

    private static void addBelowRemoved() {
        Run x = begin("promise 2: BAD when parent was removed");
        fillOwners(x);
        x.remove(11, true);
        x.remove(4, true);
        x.add(11, 5, BAD);
        x.add(4, 5, BAD);
        x.below(0, 0xFFF & ~0x810);
    }

    private static void addLimitEdges() {
        Run x = begin("promise 2: limit 0 and limit 1000");
        x.add(0, 0, 1);
        x.limit(1, 0, 0);
        x.add(0, 1000, 2);
        x.limit(2, 0, 1000);
        x.add(1, 1000, 3);
        x.limit(3, 0, 1000);
        x.add(0, 1, 4);
        x.limit(4, 0, 1);
        x.add(0, 999, 5);
        x.limit(5, 0, 999);
    }

    private static void addLimitWrong() {
        Run x = begin("promise 2: BAD when limit is not 0 .. 1000");
        for (int limit : Wrong.SPACES) {
            x.add(0, limit, BAD);
        }
        x.below(0, 1);
        x.limit(0, 0, 1000);
        x.add(0, 5, 1);
    }

    private static void addFull() {
        Run x = begin("promise 2: FULL when there are twelve, not before");
        for (int o = 1; o < 11; o++) {
            x.add(0, o, o);
        }
        x.add(10, 77, 11);
        x.add(0, 5, FULL);
        x.add(11, 0, FULL);
        x.add(11, 1000, FULL);
        x.below(0, 0xFFF);
        x.below(10, 0xC00);
        x.limit(11, 0, 77);
        x.limit(0, 0, 1000);
        x.remove(11, true);
        x.add(10, 78, 11);
        x.add(10, 78, FULL);
    }

    private static void addBadBeforeFull() {
        Run x = begin("promise 2: BAD is tested before FULL");
        fillOwners(x);
        for (int parent : Wrong.OWNERS) {
            x.add(parent, 5, BAD);
        }
        for (int limit : Wrong.SPACES) {
            x.add(0, limit, BAD);
        }
        x.add(-1, -1, BAD);
    }

    private static void remove() {
        removeWithUse();
        removeWithWaiting();
        removeWithReservation();
        removeWithSomebodyBelow();
        removeWhenBelowHasMovedAway();
        removeWithTheLastBelow();
        removeMindsNobodyBelowOthers();
        removeOwnerZero();
        removeNobody();
        removeRefusedKeepsReservations();
        removeTakesReservationsForZero();
        removeTakesUsedUpReservations();
        removeLeavesReservationsOfOthers();
        removeMakesRoomForReservations();
        removeWithLimitZero();
    }

    private static void removeWithUse() {
        Run x = begin("promise 3: total must be 0, and 1 is used");
        x.add(0, 10, 1);
        x.reserve(1, 1, 0);
        x.use(0, 1, 0);
        x.giveBack(0, 0);
        x.remove(1, false);
        x.below(0, 0b11);
        x.total(1, 1);
        x.release(1, 1, 0);
        x.free(1, 1);
        x.remove(1, true);
    }

    private static void removeWithWaiting() {
        Run x = begin("promise 3: total must be 0, and 1 waits");
        x.add(0, 10, 1);
        x.reserve(1, 1, 0);
        x.use(0, 1, 0);
        x.giveBack(0, 0);
        x.release(1, 1, 0);
        x.remove(1, false);
        x.below(0, 0b11);
        x.free(1, 1);
        x.remove(1, true);
        x.below(0, 0b01);
    }

    private static void removeWithReservation() {
        Run x = begin("promise 3: total must be 0, and 1 is reserved");
        x.add(0, 10, 1);
        x.reserve(1, 1, 0);
        x.remove(1, false);
        x.below(0, 0b11);
        x.giveBack(0, 1);
        x.remove(1, true);
        x.below(0, 0b01);
    }

    private static void removeWithSomebodyBelow() {
        Run x = begin("promise 3: below whom there must be nobody, even with a total of 0");
        x.add(0, 10, 1);
        x.add(1, 20, 2);
        x.total(1, 0);
        x.remove(1, false);
        x.below(0, 0b111);
        x.below(1, 0b110);
        x.limit(1, 0, 10);
        x.remove(2, true);
        x.remove(1, true);
        x.below(0, 0b001);
    }

    private static void removeWhenBelowHasMovedAway() {
        Run x = begin("promise 3: somebody below with a lesser number, then moved away");
        x.add(0, 10, 1);
        x.add(0, 10, 2);
        x.move(1, 2, 2);
        x.remove(2, false);
        x.move(1, 0, 0);
        x.remove(2, true);
        x.below(0, 0b011);
    }

    private static void removeWithTheLastBelow() {
        Run x = begin("promise 3: false for the first to the eleventh in a line of twelve, true for the last");
        for (int o = 1; o < 12; o++) {
            x.add(o - 1, 1000, o);
        }
        for (int o = 0; o < 11; o++) {
            x.remove(o, false);
        }
        for (int o = 11; o > 0; o--) {
            x.remove(o, true);
        }
        x.below(0, 1);
    }

    private static void removeMindsNobodyBelowOthers() {
        Run x = begin("promise 3: somebody below another, of a lesser or a greater number, keeps nobody");
        x.add(0, 10, 1);
        x.add(0, 10, 2);
        x.add(0, 10, 3);
        x.add(1, 10, 4);
        x.add(3, 10, 5);
        x.remove(2, true);
        x.below(0, 0b111011);
    }

    private static void removeOwnerZero() {
        Run x = begin("promise 3: false when it is owner 0");
        x.reserve(0, 0, 0);
        x.remove(0, false);
        x.below(0, 1);
        x.use(0, 0, 0);
        x.limit(0, 0, 1000);
        x.recover(1);
    }

    private static void removeNobody() {
        Run x = begin("promise 3: false when it is not there");
        fillOwners(x);
        for (int o : Wrong.OWNERS) {
            x.remove(o, false);
        }
        x.below(0, 0xFFF);
        x.remove(11, true);
        x.remove(11, false);
        x.remove(1, true);
        x.remove(1, false);
        x.below(0, 0x7FD);
        x.add(0, 1, 1);
        x.add(0, 1, 11);
    }

    private static void removeRefusedKeepsReservations() {
        Run x = begin("promise 3: false changes nothing, reservations for 0 stay");
        x.add(0, 10, 1);
        x.add(1, 10, 2);
        x.reserve(1, 0, 0);
        x.remove(1, false);
        x.use(0, 0, 0);
        x.remove(2, true);
        x.use(0, 0, 0);
        x.reserve(1, 3, 1);
        x.remove(1, false);
        x.use(0, 0, 0);
        x.use(1, 0, 3);
        x.limit(1, 3, 10);
        x.recover(2);
    }

    private static void removeTakesReservationsForZero() {
        Run x = begin("promise 3: reservations for 0 that are left are gone too");
        x.add(0, 10, 1);
        x.reserve(1, 0, 0);
        x.reserve(0, 4, 1);
        x.reserve(1, 0, 2);
        x.remove(1, true);
        x.use(0, 0, BAD);
        x.giveBack(0, BAD);
        x.use(2, 0, BAD);
        x.giveBack(2, BAD);
        x.use(1, 0, 4);
        x.recover(1);
    }

    private static void removeTakesUsedUpReservations() {
        Run x = begin("promise 3: a reservation that was used up is gone too");
        x.add(0, 10, 1);
        x.reserve(1, 10, 0);
        x.use(0, 10, 0);
        x.release(1, 10, 0);
        x.free(1, 10);
        x.use(0, 0, 0);
        x.remove(1, true);
        x.use(0, 0, BAD);
        x.reserve(0, 8, 0);
        x.recover(1);
    }

    private static void removeLeavesReservationsOfOthers() {
        Run x = begin("promise 3: reservations of others stay, for 0 or for more");
        x.add(0, 10, 1);
        x.add(0, 10, 2);
        x.reserve(0, 0, 0);
        x.reserve(2, 0, 1);
        x.reserve(2, 5, 2);
        x.remove(1, true);
        x.use(0, 0, 0);
        x.use(1, 0, 0);
        x.use(2, 0, 5);
        x.recover(3);
    }

    private static void removeMakesRoomForReservations() {
        Run x = begin("promise 3: numbers of reservations that are gone are taken again");
        x.add(0, 10, 1);
        for (int r = 0; r < 10; r++) {
            x.reserve(r == 4 || r == 9 ? 1 : 0, 0, r);
        }
        x.reserve(0, 1, FULL);
        x.remove(1, true);
        x.reserve(0, 1, 4);
        x.reserve(0, 1, 9);
        x.reserve(0, 1, FULL);
        x.total(0, 2);
    }

    private static void removeWithLimitZero() {
        Run x = begin("promise 3: a limit of 0 or one below its total keeps nobody, a total does");
        x.add(0, 0, 1);
        x.remove(1, true);
        x.add(0, 5, 1);
        x.reserve(1, 5, 0);
        x.setLimit(1, 0, true);
        x.remove(1, false);
        x.giveBack(0, 5);
        x.remove(1, true);
    }

    private static void setLimit() {
        setLimitBelowTotal();
        setLimitEdges();
        setLimitOfOwnerZero();
        setLimitOfNobody();
        setLimitWrong();
        setLimitTouchesNobodyElse();
    }

    private static void setLimitBelowTotal() {
        Run x = begin("promise 4: a limit below its total");
        x.add(0, 100, 1);
        x.reserve(1, 60, 0);
        x.setLimit(1, 61, true);
        x.over(0b00);
        x.setLimit(1, 60, true);
        x.over(0b00);
        x.setLimit(1, 59, true);
        x.over(0b10);
        x.setLimit(1, 0, true);
        x.over(0b10);
        x.total(1, 60);
        x.use(0, 0, 60);
        x.giveBack(0, 60);
        x.limit(1, 0, 0);
    }

    private static void setLimitEdges() {
        Run x = begin("promise 4: limit 0 and limit 1000");
        x.add(0, 500, 1);
        x.setLimit(1, 0, true);
        x.limit(1, 0, 0);
        x.setLimit(1, 1000, true);
        x.limit(1, 0, 1000);
        x.setLimit(1, 1, true);
        x.limit(1, 0, 1);
        x.setLimit(1, 999, true);
        x.limit(1, 0, 999);
        x.setLimit(1, 999, true);
        x.limit(1, 0, 999);
    }

    private static void setLimitOfOwnerZero() {
        Run x = begin("promise 4: owner 0 gets another limit too");
        x.setLimit(0, 7, true);
        x.limit(0, 0, 7);
        x.setLimit(0, 0, true);
        x.limit(0, 0, 0);
        x.setLimit(0, 1000, true);
        x.limit(0, 0, 1000);
    }

    private static void setLimitOfNobody() {
        Run x = begin("promise 4: false when it is not there");
        for (int o : Wrong.OWNERS) {
            x.setLimit(o, 5, false);
        }
        for (int o = 1; o < 12; o++) {
            x.setLimit(o, 5, false);
        }
        x.limit(0, 0, 1000);
        x.add(0, 8, 1);
        x.remove(1, true);
        x.setLimit(1, 5, false);
        x.add(0, 9, 1);
        x.limit(1, 0, 9);
    }

    private static void setLimitWrong() {
        Run x = begin("promise 4: false, changing nothing, when limit is not 0 .. 1000");
        x.add(0, 100, 1);
        for (int limit : Wrong.SPACES) {
            x.setLimit(1, limit, false);
            x.limit(1, 0, 100);
            x.setLimit(0, limit, false);
            x.limit(0, 0, 1000);
        }
    }

    private static void setLimitTouchesNobodyElse() {
        Run x = begin("promise 4: no other owner's limit");
        fillOwners(x);
        x.setLimit(11, 3, true);
        for (int o = 0; o < 11; o++) {
            x.limit(o, 0, 1000);
        }
        x.limit(11, 0, 3);
    }

    private static void moveBad() {
        moveOfOwnerZero();
        moveOfNobody();
        moveBelowNobody();
        moveBelowItself();
        moveBelowItsOwn();
        moveBadBeforeRefused();
    }

    private static void moveOfOwnerZero() {
        Run x = begin("promise 5: BAD when o is 0");
        x.add(0, 10, 1);
        x.move(0, 0, BAD);
        x.move(0, 1, BAD);
        x.move(0, 2, BAD);
        x.move(0, -1, BAD);
        x.below(0, 0b11);
        x.below(1, 0b10);
    }

    private static void moveOfNobody() {
        Run x = begin("promise 5: BAD when o is not there");
        x.add(0, 10, 1);
        x.add(0, 10, 2);
        x.remove(1, true);
        x.move(1, 0, BAD);
        x.move(1, 2, BAD);
        x.move(11, 2, BAD);
        for (int o : Wrong.OWNERS) {
            x.move(o, 2, BAD);
        }
        x.below(0, 0b101);
        x.below(2, 0b100);
    }

    private static void moveBelowNobody() {
        Run x = begin("promise 5: BAD when parent is not there");
        x.add(0, 10, 1);
        x.add(0, 10, 2);
        x.remove(1, true);
        x.move(2, 1, BAD);
        x.move(2, 11, BAD);
        for (int parent : Wrong.OWNERS) {
            x.move(2, parent, BAD);
            x.move(parent, parent, BAD);
        }
        x.below(0, 0b101);
    }

    private static void moveBelowItself() {
        Run x = begin("promise 5: BAD when parent is o");
        fillOwners(x);
        for (int o = 0; o < 12; o++) {
            x.move(o, o, BAD);
        }
        x.below(0, 0xFFF);
    }

    private static void moveBelowItsOwn() {
        Run x = begin("promise 5: BAD when parent is below o, however deep");
        for (int o = 1; o < 12; o++) {
            x.add(o - 1, 1000, o);
        }
        for (int o = 1; o < 11; o++) {
            for (int parent = o + 1; parent < 12; parent++) {
                x.move(o, parent, BAD);
            }
        }
        for (int o = 0; o < 12; o++) {
            x.below(o, 0xFFF & -(1 << o));
        }
        x.move(11, 1, 1);
        x.move(2, 11, 11);
        x.move(11, 2, BAD);
        x.below(11, 0xFFC);
    }

    private static void moveBadBeforeRefused() {
        Run x = begin("promise 5: BAD is tested before REFUSED");
        x.add(0, 100, 1);
        x.add(1, 0, 2);
        x.add(2, 0, 3);
        x.reserve(1, 50, 0);
        x.move(1, 2, BAD);
        x.move(1, 3, BAD);
        x.setLimit(1, 0, true);
        x.move(1, 1, BAD);
        x.move(0, 2, BAD);
        x.move(4, 2, BAD);
        x.below(1, 0b1110);
    }

    private static void moveRefused() {
        moveRefusedByParent();
        moveRefusedAboveParent();
        moveRefusedFarAbove();
        moveRefusedWhenOverAlready();
        moveRefusedForUsed();
        moveRefusedForWaiting();
        moveRefusedForReserved();
        moveRefusedForBelow();
        moveRefusedChangesNothing();
    }

    private static void moveRefusedByParent() {
        Run x = begin("promise 5: REFUSED when parent would have a total above its limit");
        x.add(0, 100, 1);
        x.add(0, 30, 2);
        x.reserve(1, 20, 0);
        x.reserve(2, 11, 1);
        x.move(1, 2, REFUSED);
        x.setLimit(2, 31, true);
        x.move(1, 2, 2);
        x.over(0);
        x.total(2, 31);
    }

    private static void moveRefusedAboveParent() {
        Run x = begin("promise 5: REFUSED when somebody above parent would have a total above its limit");
        x.add(0, 100, 1);
        x.add(0, 30, 2);
        x.add(2, 100, 3);
        x.reserve(1, 20, 0);
        x.reserve(2, 11, 1);
        x.move(1, 3, REFUSED);
        x.setLimit(2, 31, true);
        x.move(1, 3, 3);
        x.over(0);
        x.total(2, 31);
    }

    private static void moveRefusedFarAbove() {
        Run x = begin("promise 5: REFUSED when the one next to owner 0 in a line of twelve is too full");
        for (int o = 1; o < 11; o++) {
            x.add(o - 1, 1000, o);
        }
        x.add(0, 1000, 11);
        x.reserve(11, 9, 0);
        x.setLimit(1, 8, true);
        x.move(11, 10, REFUSED);
        x.below(1, 0x7FE);
        x.setLimit(1, 9, true);
        x.move(11, 10, 10);
        x.below(1, 0xFFE);
    }

    private static void moveRefusedWhenOverAlready() {
        Run x = begin("promise 5: REFUSED when a total above its limit would become greater");
        x.add(0, 100, 1);
        x.add(0, 100, 2);
        x.reserve(1, 1, 0);
        x.reserve(2, 50, 1);
        x.setLimit(2, 49, true);
        x.over(0b100);
        x.move(1, 2, REFUSED);
        x.total(2, 50);
        x.setLimit(2, 50, true);
        x.move(1, 2, REFUSED);
        x.setLimit(2, 51, true);
        x.move(1, 2, 2);
    }

    private static void moveRefusedForUsed() {
        Run x = begin("promise 5: what is used counts for the refusal");
        moveOfOne(x);
        x.use(0, 1, 0);
        x.move(1, 2, REFUSED);
        x.setLimit(2, 1, true);
        x.move(1, 2, 2);
    }

    private static void moveRefusedForWaiting() {
        Run x = begin("promise 5: what waits counts for the refusal");
        moveOfOne(x);
        x.use(0, 1, 0);
        x.release(1, 1, 0);
        x.move(1, 2, REFUSED);
        x.free(1, 1);
        x.move(1, 2, 2);
    }

    private static void moveRefusedForReserved() {
        Run x = begin("promise 5: what is reserved counts for the refusal");
        moveOfOne(x);
        x.move(1, 2, REFUSED);
        x.giveBack(0, 1);
        x.move(1, 2, 2);
    }

    /** 1 holds a reservation for 1, 2 takes nothing. */
    private static void moveOfOne(Run x) {
        x.add(0, 10, 1);
        x.add(0, 0, 2);
        x.reserve(1, 1, 0);
    }

    private static void moveRefusedForBelow() {
        Run x = begin("promise 5: what those below o have counts for the refusal");
        x.add(0, 10, 1);
        x.add(1, 10, 2);
        x.add(2, 10, 3);
        x.add(0, 0, 4);
        x.reserve(3, 1, 0);
        x.move(1, 4, REFUSED);
        x.move(2, 4, REFUSED);
        x.setLimit(4, 1, true);
        x.move(1, 4, 4);
        x.below(4, 0b11110);
        x.total(4, 1);
    }

    private static void moveRefusedChangesNothing() {
        Run x = begin("promise 5: REFUSED, changing nothing");
        x.add(0, 100, 1);
        x.add(1, 90, 2);
        x.add(0, 10, 3);
        x.reserve(2, 11, 0);
        x.move(2, 3, REFUSED);
        x.below(1, 0b0110);
        x.below(3, 0b1000);
        x.total(1, 11);
        x.total(2, 11);
        x.total(3, 0);
        x.limit(2, 11, 90);
        x.limit(3, 0, 10);
        x.use(0, 0, 11);
    }

    private static void moveDone() {
        moveWhenTotalStaysTheSame();
        moveUpWhenAboveIsOver();
        moveWhenOwnerZeroIsOver();
        moveToTheParentItHas();
        moveOfNothingBelowOneOver();
        moveOfOneOverItsLimit();
        moveTakesAllBelowAlong();
        moveRelievesOldParents();
        moveAnswersNewParent();
    }

    private static void moveWhenTotalStaysTheSame() {
        Run x = begin("promise 5: done when somebody above is over its limit and its total stays the same");
        x.add(0, 100, 1);
        x.add(1, 100, 2);
        x.add(1, 100, 3);
        x.reserve(2, 60, 0);
        x.setLimit(1, 10, true);
        x.over(0b0010);
        x.move(2, 3, 3);
        x.below(3, 0b1100);
        x.total(1, 60);
        x.over(0b0010);
    }

    private static void moveUpWhenAboveIsOver() {
        Run x = begin("promise 5: done when parent is over its limit and has o below it already");
        x.add(0, 100, 1);
        x.add(1, 100, 2);
        x.add(2, 100, 3);
        x.reserve(3, 60, 0);
        x.setLimit(1, 10, true);
        x.setLimit(2, 10, true);
        x.over(0b0110);
        x.move(3, 1, 1);
        x.over(0b0010);
        x.total(2, 0);
        x.move(3, 2, REFUSED);
    }

    private static void moveWhenOwnerZeroIsOver() {
        Run x = begin("promise 5: done when owner 0 is over its limit, for its total never changes");
        x.add(0, 100, 1);
        x.add(0, 100, 2);
        x.reserve(1, 60, 0);
        x.setLimit(0, 0, true);
        x.move(1, 2, 2);
        x.move(1, 0, 0);
        x.over(0b001);
    }

    private static void moveToTheParentItHas() {
        Run x = begin("promise 5: done when parent is the one it has");
        x.add(0, 100, 1);
        x.add(1, 100, 2);
        x.reserve(2, 60, 0);
        x.move(2, 1, 1);
        x.setLimit(1, 59, true);
        x.setLimit(0, 59, true);
        x.move(2, 1, 1);
        x.move(1, 0, 0);
        x.below(1, 0b110);
        x.total(1, 60);
        x.total(0, 60);
    }

    private static void moveOfNothingBelowOneOver() {
        Run x = begin("promise 5: done when o has a total of 0 and parent is over its limit");
        x.add(0, 100, 1);
        x.add(0, 0, 2);
        x.reserve(1, 60, 0);
        x.reserve(2, 0, 1);
        x.setLimit(1, 0, true);
        x.move(2, 1, 1);
        x.below(1, 0b110);
    }

    private static void moveOfOneOverItsLimit() {
        Run x = begin("promise 5: done when o or somebody below it is over its limit");
        x.add(0, 100, 1);
        x.add(1, 100, 2);
        x.add(0, 60, 3);
        x.reserve(2, 60, 0);
        x.setLimit(1, 0, true);
        x.setLimit(2, 0, true);
        x.move(1, 3, 3);
        x.over(0b0110);
        x.total(3, 60);
    }

    private static void moveTakesAllBelowAlong() {
        Run x = begin("promise 5: with all below it");
        x.add(0, 100, 1);
        x.add(1, 100, 2);
        x.add(2, 100, 3);
        x.add(1, 100, 4);
        x.add(0, 100, 5);
        x.reserve(3, 8, 0);
        x.move(1, 5, 5);
        x.below(5, 0b111110);
        x.below(1, 0b011110);
        x.below(2, 0b001100);
        x.total(5, 8);
        x.use(0, 8, 0);
        x.release(3, 8, 0);
        x.free(5, 8);
    }

    private static void moveRelievesOldParents() {
        Run x = begin("promise 5: those above o before have that much less");
        x.add(0, 100, 1);
        x.add(1, 100, 2);
        x.add(2, 100, 3);
        x.reserve(3, 8, 0);
        x.reserve(2, 1, 1);
        x.move(3, 0, 0);
        x.total(2, 1);
        x.total(1, 1);
        x.total(0, 9);
        x.below(1, 0b0110);
    }

    private static void moveAnswersNewParent() {
        Run x = begin("promise 5: answers the new parent");
        fillOwners(x);
        x.move(1, 11, 11);
        x.move(1, 2, 2);
        x.move(2, 0, 0);
        x.move(1, 0, 0);
        x.below(2, 0b100);
    }
}
