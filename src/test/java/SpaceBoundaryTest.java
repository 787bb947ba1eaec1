/** Each sentence of promises 6 to 11 that names a boundary case, one test for each. */
public final class SpaceBoundaryTest {
    private static final int BAD = QuotaTree.BAD;
    private static final int FULL = QuotaTree.FULL;
    private static final int REFUSED = QuotaTree.REFUSED;

    private static final Check check = new Check();

    public static void main(String[] args) {
        reserveNumbers();
        reserveWrong();
        reserveRefused();
        use();
        giveBack();
        release();
        free();
        recover();
        check.end();
    }

    private static Run begin(String sentence) {
        check.part(sentence);
        return new Run(check);
    }

    private static void fillReservations(Run x, int o) {
        for (int r = 0; r < 10; r++) {
            x.reserve(o, 0, r);
        }
    }

    /** 0, 1 and 2 in a line; 3 beside 1. */
    private static void smallTree(Run x) {
        x.add(0, 100, 1);
        x.add(1, 60, 2);
        x.add(0, 50, 3);
    }

    private static void reserveNumbers() {
        reserveTakesLeastNumber();
        reserveTakesNumberAsNew();
        reserveFull();
        reserveUsedUpCounts();
        reserveBadBeforeFull();
        reserveFullBeforeRefused();
        reserveBadBeforeRefused();
    }

    private static void reserveTakesLeastNumber() {
        Run x = begin("promise 6: the least number that no reservation has");
        fillReservations(x, 0);
        x.giveBack(8, 0);
        x.giveBack(0, 0);
        x.giveBack(5, 0);
        x.reserve(0, 1, 0);
        x.reserve(0, 1, 5);
        x.giveBack(0, 1);
        x.reserve(0, 1, 0);
        x.reserve(0, 1, 8);
        x.reserve(0, 1, FULL);
        x.giveBack(9, 0);
        x.reserve(0, 1, 9);
        x.reserve(0, 1, FULL);
    }

    private static void reserveTakesNumberAsNew() {
        Run x = begin("promise 6: a number that is taken again is a new reservation");
        smallTree(x);
        x.reserve(2, 30, 0);
        x.use(0, 10, 20);
        x.giveBack(0, 20);
        x.reserve(3, 5, 0);
        x.use(0, 0, 5);
        x.total(3, 5);
        x.total(2, 10);
        x.use(0, 5, 0);
        x.release(3, 5, 0);
        x.release(2, 11, BAD);
    }

    private static void reserveFull() {
        Run x = begin("promise 6: FULL when there are ten, not before");
        for (int r = 0; r < 9; r++) {
            x.reserve(0, 1, r);
        }
        x.reserve(0, 0, 9);
        x.reserve(0, 0, FULL);
        x.reserve(0, 1, FULL);
        x.reserve(0, 1000, FULL);
        x.total(0, 9);
        x.recover(10);
    }

    private static void reserveUsedUpCounts() {
        Run x = begin("promise 6: one that is used up still is one of the ten");
        fillReservations(x, 0);
        x.giveBack(3, 0);
        x.reserve(0, 4, 3);
        x.use(3, 4, 0);
        x.reserve(0, 0, FULL);
        x.use(3, 0, 0);
        x.giveBack(3, 0);
        x.reserve(0, 0, 3);
    }

    private static void reserveBadBeforeFull() {
        Run x = begin("promise 6: BAD is tested before FULL");
        fillReservations(x, 0);
        x.reserve(1, 0, BAD);
        for (int o : Wrong.OWNERS) {
            x.reserve(o, 0, BAD);
        }
        for (int n : Wrong.SPACES) {
            x.reserve(0, n, BAD);
        }
    }

    private static void reserveFullBeforeRefused() {
        Run x = begin("promise 6: FULL is tested before REFUSED");
        x.add(0, 0, 1);
        x.reserve(1, 1, REFUSED);
        fillReservations(x, 0);
        x.reserve(1, 1, FULL);
        x.reserve(0, 1000, FULL);
        x.giveBack(0, 0);
        x.reserve(1, 1, REFUSED);
    }

    private static void reserveBadBeforeRefused() {
        Run x = begin("promise 6: BAD is tested before REFUSED");
        x.add(0, 0, 1);
        x.reserve(1, 1001, BAD);
        x.reserve(1, Integer.MAX_VALUE, BAD);
        x.reserve(1, -1, BAD);
        x.setLimit(0, 0, true);
        x.reserve(2, 1, BAD);
        x.reserve(-1, 1, BAD);
    }

    private static void reserveWrong() {
        reserveForNobody();
        reserveForRemoved();
        reserveWrongSpace();
        reserveSpaceEdges();
    }

    private static void reserveForNobody() {
        Run x = begin("promise 6: BAD when there is no owner o");
        for (int o : Wrong.OWNERS) {
            x.reserve(o, 0, BAD);
            x.reserve(o, 1, BAD);
        }
        for (int o = 1; o < 12; o++) {
            x.reserve(o, 0, BAD);
        }
        x.total(0, 0);
        x.recover(0);
    }

    private static void reserveForRemoved() {
        Run x = begin("promise 6: BAD when o was removed");
        x.add(0, 10, 1);
        x.reserve(1, 0, 0);
        x.remove(1, true);
        x.reserve(1, 0, BAD);
        x.reserve(1, 1, BAD);
        x.recover(0);
    }

    private static void reserveWrongSpace() {
        Run x = begin("promise 6: BAD when n is not 0 .. 1000");
        for (int n : Wrong.SPACES) {
            x.reserve(0, n, BAD);
        }
        x.total(0, 0);
        x.recover(0);
        x.reserve(0, 500, 0);
        for (int n : Wrong.SPACES) {
            x.reserve(0, n, BAD);
        }
        x.total(0, 500);
        x.recover(1);
    }

    private static void reserveSpaceEdges() {
        Run x = begin("promise 6: n of 0, 1, 999 and 1000");
        x.reserve(0, 0, 0);
        x.total(0, 0);
        x.reserve(0, 1, 1);
        x.reserve(0, 999, 2);
        x.total(0, 1000);
        x.giveBack(1, 1);
        x.giveBack(2, 999);
        x.reserve(0, 1000, 1);
        x.total(0, 1000);
        x.giveBack(1, 1000);
        x.giveBack(0, 0);
    }

    private static void reserveRefused() {
        reserveRefusedByItsLimit();
        reserveRefusedByLimitAbove();
        reserveRefusedByOwnerZero();
        reserveRefusedWhenOverAlready();
        reserveOfZeroIsNotRefused();
        reserveMindsNobodyBelow();
        reserveMindsNobodyBeside();
        reserveRefusedForUsedAndWaiting();
        reserveRefusedChangesNothing();
    }

    private static void reserveRefusedByItsLimit() {
        Run x = begin("promise 6: REFUSED when o would have a total above its limit");
        x.add(0, 10, 1);
        x.reserve(1, 11, REFUSED);
        x.reserve(1, 10, 0);
        x.reserve(1, 1, REFUSED);
        x.total(1, 10);
        x.over(0);
    }

    private static void reserveRefusedByLimitAbove() {
        Run x = begin("promise 6: REFUSED when somebody above o would have a total above its limit");
        x.add(0, 10, 1);
        x.add(1, 1000, 2);
        x.add(2, 1000, 3);
        x.reserve(3, 11, REFUSED);
        x.reserve(3, 10, 0);
        x.reserve(3, 1, REFUSED);
        x.reserve(2, 1, REFUSED);
        x.over(0);
    }

    private static void reserveRefusedByOwnerZero() {
        Run x = begin("promise 6: REFUSED when owner 0, eleven above o, would have a total above its limit");
        for (int o = 1; o < 12; o++) {
            x.add(o - 1, 1000, o);
        }
        x.setLimit(0, 10, true);
        x.reserve(11, 11, REFUSED);
        x.reserve(11, 10, 0);
        x.reserve(11, 1, REFUSED);
        x.total(0, 10);
    }

    private static void reserveRefusedWhenOverAlready() {
        Run x = begin("promise 6: REFUSED when o or somebody above is over its limit already");
        smallTree(x);
        x.reserve(2, 20, 0);
        x.setLimit(2, 10, true);
        x.reserve(2, 1, REFUSED);
        x.setLimit(2, 60, true);
        x.setLimit(1, 10, true);
        x.reserve(2, 1, REFUSED);
        x.reserve(1, 1, REFUSED);
        x.setLimit(1, 21, true);
        x.reserve(2, 1, 1);
        x.reserve(2, 1, REFUSED);
    }

    private static void reserveOfZeroIsNotRefused() {
        Run x = begin("promise 6: n of 0 is not REFUSED, though o and all above are over their limits");
        smallTree(x);
        x.reserve(2, 20, 0);
        x.setLimit(0, 0, true);
        x.setLimit(1, 19, true);
        x.setLimit(2, 0, true);
        x.reserve(2, 0, 1);
        x.reserve(1, 0, 2);
        x.reserve(0, 0, 3);
        x.reserve(3, 0, 4);
        x.reserve(3, 1, REFUSED);
        x.total(0, 20);
        x.recover(5);
    }

    private static void reserveMindsNobodyBelow() {
        Run x = begin("promise 6: not REFUSED when somebody below o is over its limit");
        smallTree(x);
        x.reserve(2, 20, 0);
        x.setLimit(2, 0, true);
        x.reserve(1, 80, 1);
        x.reserve(1, 1, REFUSED);
    }

    private static void reserveMindsNobodyBeside() {
        Run x = begin("promise 6: not REFUSED when somebody beside o is full or over its limit");
        smallTree(x);
        x.reserve(3, 50, 0);
        x.reserve(2, 60, 1);
        x.setLimit(3, 0, true);
        x.reserve(1, 40, 2);
        x.over(0b1000);
    }

    private static void reserveRefusedForUsedAndWaiting() {
        Run x = begin("promise 6: what is used and what waits counts for the refusal");
        x.add(0, 10, 1);
        x.reserve(1, 10, 0);
        x.use(0, 10, 0);
        x.giveBack(0, 0);
        x.reserve(1, 1, REFUSED);
        x.release(1, 10, 0);
        x.reserve(1, 1, REFUSED);
        x.free(1, 10);
        x.reserve(1, 10, 0);
    }

    private static void reserveRefusedChangesNothing() {
        Run x = begin("promise 6: a refused reservation takes no number and no space");
        x.add(0, 10, 1);
        for (int i = 0; i < 20; i++) {
            x.reserve(1, 11, REFUSED);
        }
        x.total(1, 0);
        x.total(0, 0);
        x.use(0, 0, BAD);
        x.reserve(1, 10, 0);
        x.recover(1);
    }

    private static void use() {
        useOfNothing();
        useOfAll();
        useOfTooMuch();
        useOfTooLittle();
        useOfNoReservation();
        useKeepsTotals();
        useGoesToItsOwner();
        useMindsNoLimit();
    }

    private static void useOfNothing() {
        Run x = begin("promise 7: n of 0");
        x.reserve(0, 5, 0);
        x.use(0, 0, 5);
        x.reserve(0, 0, 1);
        x.use(1, 0, 0);
        x.release(0, 0, 0);
        x.release(0, 1, BAD);
        x.giveBack(0, 5);
    }

    private static void useOfAll() {
        Run x = begin("promise 7: n of all that is left; the reservation stays, for 0");
        x.reserve(0, 5, 0);
        x.use(0, 4, 1);
        x.use(0, 1, 0);
        x.use(0, 0, 0);
        x.use(0, 1, BAD);
        x.reserve(0, 1, 1);
        x.giveBack(0, 0);
        x.giveBack(0, BAD);
        x.release(0, 5, 0);
    }

    private static void useOfTooMuch() {
        Run x = begin("promise 7: BAD, changing nothing, when n is above what is left");
        x.reserve(0, 5, 0);
        x.reserve(0, 500, 1);
        x.use(0, 2, 3);
        x.use(0, 4, BAD);
        x.use(0, 5, BAD);
        x.use(0, 1000, BAD);
        x.use(0, 1001, BAD);
        x.use(0, Integer.MAX_VALUE, BAD);
        x.release(0, 0, 2);
        x.use(0, 0, 3);
        x.use(0, 3, 0);
    }

    private static void useOfTooLittle() {
        Run x = begin("promise 7: BAD, changing nothing, when n is below 0");
        x.reserve(0, 5, 0);
        x.use(0, 2, 3);
        x.use(0, -1, BAD);
        x.use(0, -2, BAD);
        x.use(0, Integer.MIN_VALUE, BAD);
        x.use(0, Integer.MIN_VALUE + 3, BAD);
        x.release(0, 0, 2);
        x.use(0, 0, 3);
        x.total(0, 5);
    }

    private static void useOfNoReservation() {
        Run x = begin("promise 7: BAD when there is no reservation r");
        x.reserve(0, 5, 0);
        x.giveBack(0, 5);
        x.use(0, 0, BAD);
        x.use(0, 5, BAD);
        for (int r = 0; r < 10; r++) {
            x.use(r, 0, BAD);
        }
        fillReservations(x, 0);
        for (int r : Wrong.RESERVATIONS) {
            x.use(r, 0, BAD);
        }
        x.use(9, 0, 0);
        x.total(0, 0);
    }

    private static void useKeepsTotals() {
        Run x = begin("promise 7: the reservation is for that much less, totals stay");
        smallTree(x);
        x.reserve(2, 30, 0);
        x.use(0, 12, 18);
        x.total(2, 30);
        x.total(1, 30);
        x.total(0, 30);
        x.giveBack(0, 18);
        x.total(2, 12);
    }

    private static void useGoesToItsOwner() {
        Run x = begin("promise 7: its owner uses it, also when it has moved");
        smallTree(x);
        x.reserve(2, 30, 0);
        x.move(2, 3, 3);
        x.use(0, 12, 18);
        x.release(2, 0, 12);
        x.release(1, 0, 0);
        x.release(3, 0, 0);
        x.release(0, 0, 0);
        x.total(3, 30);
        x.total(1, 0);
    }

    private static void useMindsNoLimit() {
        Run x = begin("promise 7: no limit hinders it");
        smallTree(x);
        x.reserve(2, 30, 0);
        x.setLimit(2, 0, true);
        x.setLimit(0, 0, true);
        x.use(0, 30, 0);
        x.release(2, 30, 0);
    }

    private static void giveBack() {
        giveBackOfNoReservation();
        giveBackTwice();
        giveBackOfZero();
        giveBackLeavesWhatIsUsed();
        giveBackFreesTheNumber();
        giveBackOfLastNumber();
    }

    private static void giveBackOfNoReservation() {
        Run x = begin("promise 8: BAD when there is none");
        for (int r = 0; r < 10; r++) {
            x.giveBack(r, BAD);
        }
        x.reserve(0, 5, 0);
        for (int r = 1; r < 10; r++) {
            x.giveBack(r, BAD);
        }
        x.giveBack(0, 5);
        fillReservations(x, 0);
        for (int r : Wrong.RESERVATIONS) {
            x.giveBack(r, BAD);
        }
        x.recover(10);
    }

    private static void giveBackTwice() {
        Run x = begin("promise 8: which is gone then");
        x.reserve(0, 5, 0);
        x.reserve(0, 6, 1);
        x.giveBack(0, 5);
        x.giveBack(0, BAD);
        x.use(0, 0, BAD);
        x.total(0, 6);
        x.recover(1);
    }

    private static void giveBackOfZero() {
        Run x = begin("promise 8: what is left may be 0");
        x.reserve(0, 0, 0);
        x.reserve(0, 5, 1);
        x.use(1, 5, 0);
        x.giveBack(0, 0);
        x.giveBack(1, 0);
        x.giveBack(0, BAD);
        x.giveBack(1, BAD);
        x.total(0, 5);
    }

    private static void giveBackLeavesWhatIsUsed() {
        Run x = begin("promise 8: only what is left is given back");
        smallTree(x);
        x.reserve(2, 30, 0);
        x.use(0, 12, 18);
        x.release(2, 2, 10);
        x.giveBack(0, 18);
        x.total(2, 12);
        x.total(1, 12);
        x.total(0, 12);
        x.release(2, 0, 10);
        x.free(2, 2);
    }

    private static void giveBackFreesTheNumber() {
        Run x = begin("promise 8: its number and its space are free again");
        x.reserve(0, 1000, 0);
        x.reserve(0, 1, REFUSED);
        x.giveBack(0, 1000);
        x.reserve(0, 1000, 0);
        fillTenth(x);
        x.giveBack(7, 0);
        x.reserve(0, 0, 7);
    }

    private static void fillTenth(Run x) {
        for (int r = 1; r < 10; r++) {
            x.reserve(0, 0, r);
        }
        x.reserve(0, 0, FULL);
    }

    private static void giveBackOfLastNumber() {
        Run x = begin("promise 8: reservation 9 and owner 11");
        for (int o = 1; o < 12; o++) {
            x.add(0, 10, o);
        }
        for (int r = 0; r < 10; r++) {
            x.reserve(r + 2, r + 1, r);
        }
        x.giveBack(9, 10);
        x.total(11, 0);
        x.total(10, 9);
        x.total(0, 45);
    }

    private static void release() {
        releaseOfNothing();
        releaseOfAll();
        releaseOfTooMuch();
        releaseOfTooLittle();
        releaseByNobody();
        releaseOfWhatIsNotUsed();
        releaseOfWhatIsUsedBelow();
        releaseKeepsTotals();
    }

    /** Owner 1 uses 7 and has 3 reserved. */
    private static void usesSeven(Run x) {
        x.add(0, 100, 1);
        x.reserve(1, 10, 0);
        x.use(0, 7, 3);
    }

    private static void releaseOfNothing() {
        Run x = begin("promise 9: n of 0");
        x.release(0, 0, 0);
        usesSeven(x);
        x.release(1, 0, 7);
        x.free(1, 0);
        x.total(1, 10);
    }

    private static void releaseOfAll() {
        Run x = begin("promise 9: n of all that it uses");
        usesSeven(x);
        x.release(1, 6, 1);
        x.release(1, 1, 0);
        x.release(1, 0, 0);
        x.release(1, 1, BAD);
        x.free(1, 7);
    }

    private static void releaseOfTooMuch() {
        Run x = begin("promise 9: BAD, changing nothing, when n is above what it uses");
        usesSeven(x);
        x.release(1, 8, BAD);
        x.release(1, 10, BAD);
        x.release(1, 1001, BAD);
        x.release(1, Integer.MAX_VALUE, BAD);
        x.release(1, 0, 7);
        x.free(1, 0);
        x.total(1, 10);
    }

    private static void releaseOfTooLittle() {
        Run x = begin("promise 9: BAD, changing nothing, when n is below 0");
        usesSeven(x);
        x.release(1, 2, 5);
        x.release(1, -1, BAD);
        x.release(1, -2, BAD);
        x.release(1, Integer.MIN_VALUE, BAD);
        x.release(1, Integer.MIN_VALUE + 5, BAD);
        x.release(1, 0, 5);
        x.free(1, 2);
    }

    private static void releaseByNobody() {
        Run x = begin("promise 9: BAD when there is no owner o");
        for (int o = 1; o < 12; o++) {
            x.release(o, 0, BAD);
        }
        usesSeven(x);
        for (int o : Wrong.OWNERS) {
            x.release(o, 0, BAD);
        }
        x.add(0, 5, 2);
        x.remove(2, true);
        x.release(2, 0, BAD);
        x.total(0, 10);
    }

    private static void releaseOfWhatIsNotUsed() {
        Run x = begin("promise 9: what is reserved or waits already is not used");
        x.reserve(0, 5, 0);
        x.release(0, 1, BAD);
        x.use(0, 2, 3);
        x.release(0, 2, 0);
        x.release(0, 1, BAD);
        x.free(0, 2);
        x.release(0, 1, BAD);
        x.use(0, 0, 3);
    }

    private static void releaseOfWhatIsUsedBelow() {
        Run x = begin("promise 9: what owner o uses, not those below or above it");
        smallTree(x);
        x.reserve(2, 5, 0);
        x.use(0, 5, 0);
        x.release(1, 1, BAD);
        x.release(0, 1, BAD);
        x.release(1, 0, 0);
        x.reserve(0, 6, 1);
        x.use(1, 6, 0);
        x.release(1, 1, BAD);
        x.release(2, 6, BAD);
        x.release(2, 5, 0);
        x.release(0, 6, 0);
    }

    private static void releaseKeepsTotals() {
        Run x = begin("promise 9: lets it wait, so that totals stay");
        usesSeven(x);
        x.release(1, 7, 0);
        x.total(1, 10);
        x.total(0, 10);
        x.room(1, 90);
        x.giveBack(0, 3);
        x.total(1, 7);
    }

    private static void free() {
        freeOfNothing();
        freeTwice();
        freeAtAndBelow();
        freeNotAbove();
        freeLeavesTheRest();
        freeOfNobody();
        freeInTheDeepestTree();
        freeOfAThousand();
    }

    private static void freeOfNothing() {
        Run x = begin("promise 10: nothing waits");
        x.free(0, 0);
        usesSeven(x);
        x.free(0, 0);
        x.free(1, 0);
        x.total(1, 10);
    }

    private static void freeTwice() {
        Run x = begin("promise 10: what is freed waits no more");
        usesSeven(x);
        x.release(1, 7, 0);
        x.free(1, 7);
        x.free(1, 0);
        x.free(0, 0);
        x.total(1, 3);
        x.total(0, 3);
    }

    /** At 0, 1, 2 and 3 wait 1, 2, 4 and 8. */
    private static void fourWait(Run x) {
        smallTree(x);
        for (int o = 0; o < 4; o++) {
            x.reserve(o, 1 << o, o);
            x.use(o, 1 << o, 0);
            x.release(o, 1 << o, 0);
        }
    }

    private static void freeAtAndBelow() {
        Run x = begin("promise 10: at owner o and below");
        fourWait(x);
        x.free(0, 15);
        x.total(0, 0);
        x.total(1, 0);
        x.total(2, 0);
        x.total(3, 0);
    }

    private static void freeNotAbove() {
        Run x = begin("promise 10: not above owner o and not beside it");
        fourWait(x);
        x.free(1, 2 + 4);
        x.total(0, 1 + 8);
        x.total(1, 0);
        x.total(3, 8);
        x.free(3, 8);
        x.total(0, 1);
        x.free(2, 0);
        x.free(0, 1);
    }

    private static void freeLeavesTheRest() {
        Run x = begin("promise 10: what is used or reserved is not freed");
        usesSeven(x);
        x.release(1, 2, 5);
        x.free(0, 2);
        x.release(1, 0, 5);
        x.use(0, 0, 3);
        x.total(1, 8);
    }

    private static void freeOfNobody() {
        Run x = begin("promise 10: BAD when there is no owner o");
        for (int o = 1; o < 12; o++) {
            x.free(o, BAD);
        }
        usesSeven(x);
        x.release(1, 7, 0);
        for (int o : Wrong.OWNERS) {
            x.free(o, BAD);
        }
        x.add(0, 5, 2);
        x.remove(2, true);
        x.free(2, BAD);
        x.free(1, 7);
    }

    private static void freeInTheDeepestTree() {
        Run x = begin("promise 10: owner 11 in a line of twelve");
        for (int o = 1; o < 12; o++) {
            x.add(o - 1, 1000, o);
        }
        x.reserve(11, 5, 0);
        x.use(0, 5, 0);
        x.release(11, 4, 1);
        x.free(0, 4);
        x.release(11, 1, 0);
        x.free(11, 1);
        x.total(0, 0);
    }

    private static void freeOfAThousand() {
        Run x = begin("promise 10: all of the 1000");
        x.reserve(0, 1000, 0);
        x.use(0, 1000, 0);
        x.release(0, 1000, 0);
        x.reserve(0, 1, REFUSED);
        x.free(0, 1000);
        x.reserve(0, 1000, 1);
    }

    private static void recover() {
        recoverOfNone();
        recoverOfTen();
        recoverCountsThoseForZero();
        recoverLeavesTheRest();
        recoverFreesNumbers();
        recoverOfSomeNumbers();
    }

    private static void recoverOfNone() {
        Run x = begin("promise 11: none is there");
        x.recover(0);
        x.reserve(0, 5, 0);
        x.giveBack(0, 5);
        x.recover(0);
    }

    private static void recoverOfTen() {
        Run x = begin("promise 11: ten are there");
        x.add(0, 100, 1);
        for (int r = 0; r < 10; r++) {
            x.reserve(r % 2, 10, r);
        }
        x.recover(10);
        x.recover(0);
        x.total(0, 0);
        x.total(1, 0);
        for (int r = 0; r < 10; r++) {
            x.use(r, 0, BAD);
        }
    }

    private static void recoverCountsThoseForZero() {
        Run x = begin("promise 11: those for 0 and those used up are counted");
        x.reserve(0, 0, 0);
        x.reserve(0, 5, 1);
        x.use(1, 5, 0);
        x.recover(2);
        x.use(0, 0, BAD);
        x.use(1, 0, BAD);
        x.total(0, 5);
    }

    private static void recoverLeavesTheRest() {
        Run x = begin("promise 11: what is used and what waits stays");
        usesSeven(x);
        x.release(1, 2, 5);
        x.recover(1);
        x.total(1, 7);
        x.release(1, 0, 5);
        x.free(1, 2);
        x.total(0, 5);
        x.limit(1, 5, 100);
    }

    private static void recoverFreesNumbers() {
        Run x = begin("promise 11: all numbers are free again");
        fillReservations(x, 0);
        x.reserve(0, 0, FULL);
        x.recover(10);
        fillReservations(x, 0);
        x.reserve(0, 0, FULL);
    }

    private static void recoverOfSomeNumbers() {
        Run x = begin("promise 11: the first and the last number alone");
        fillReservations(x, 0);
        for (int r = 1; r < 9; r++) {
            x.giveBack(r, 0);
        }
        x.recover(2);
        x.use(0, 0, BAD);
        x.use(9, 0, BAD);
        x.reserve(0, 3, 0);
    }
}
