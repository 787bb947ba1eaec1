/** Each sentence of promises 12 to 16 that names a boundary case, one test for each. */
public final class QuestionsBoundaryTest {
    private static final int BAD = QuotaTree.BAD;
    private static final int FULL = QuotaTree.FULL;
    private static final int REFUSED = QuotaTree.REFUSED;

    private static final Check check = new Check();

    public static void main(String[] args) {
        total();
        room();
        blocker();
        over();
        below();
        check.end();
    }

    private static Run begin(String sentence) {
        check.part(sentence);
        return new Run(check);
    }

    /** 0, 1 and 2 in a line; 3 beside 1. */
    private static void smallTree(Run x) {
        x.add(0, 100, 1);
        x.add(1, 60, 2);
        x.add(0, 50, 3);
    }

    private static void lineOfTwelve(Run x) {
        for (int o = 1; o < 12; o++) {
            x.add(o - 1, 1000, o);
        }
    }

    private static void total() {
        totalOfNobody();
        totalOfNothing();
        totalOfAThousand();
        totalAboveTheLimit();
        totalInTheDeepestTree();
        totalOfTwelveAndTen();
    }

    private static void totalOfNobody() {
        Run x = begin("promise 12: BAD when there is none");
        for (int o = 1; o < 12; o++) {
            x.total(o, BAD);
        }
        x.add(0, 5, 1);
        x.total(1, 0);
        x.remove(1, true);
        x.total(1, BAD);
        lineOfTwelve(x);
        for (int o : Wrong.OWNERS) {
            x.total(o, BAD);
        }
        x.total(11, 0);
    }

    private static void totalOfNothing() {
        Run x = begin("promise 12: 0 when nothing is there, reservations for 0 or not");
        smallTree(x);
        x.reserve(2, 0, 0);
        for (int o = 0; o < 4; o++) {
            x.total(o, 0);
        }
    }

    private static void totalOfAThousand() {
        Run x = begin("promise 12: all of the 1000");
        x.add(0, 1000, 1);
        x.reserve(1, 334, 0);
        x.reserve(1, 333, 1);
        x.reserve(1, 333, 2);
        x.use(0, 334, 0);
        x.release(1, 334, 0);
        x.use(1, 333, 0);
        x.total(1, 1000);
        x.total(0, 1000);
    }

    private static void totalAboveTheLimit() {
        Run x = begin("promise 12: a total above the limit");
        smallTree(x);
        x.reserve(2, 40, 0);
        x.setLimit(2, 0, true);
        x.setLimit(0, 39, true);
        x.total(2, 40);
        x.total(0, 40);
    }

    private static void totalInTheDeepestTree() {
        Run x = begin("promise 12: owner 11 counts for all eleven above it");
        lineOfTwelve(x);
        x.reserve(11, 3, 0);
        for (int o = 0; o < 12; o++) {
            x.total(o, 3);
        }
        x.use(0, 2, 1);
        x.release(11, 1, 1);
        for (int o = 0; o < 12; o++) {
            x.total(o, 3);
        }
        x.reserve(0, 4, 1);
        x.total(0, 7);
        x.total(1, 3);
    }

    private static void totalOfTwelveAndTen() {
        Run x = begin("promise 12: twelve owners and ten reservations");
        for (int o = 1; o < 12; o++) {
            x.add(0, 1000, o);
        }
        for (int r = 0; r < 10; r++) {
            x.reserve(11 - r, 1 + r, r);
        }
        x.total(0, 55);
        x.total(1, 0);
        for (int r = 0; r < 10; r++) {
            x.total(11 - r, 1 + r);
        }
    }

    private static void room() {
        roomOfNobody();
        roomAtLeastZero();
        roomOfFullOwner();
        roomGreatest();
        roomByLimitAbove();
        roomWithoutFreeReservation();
        roomMindsNobodyBelow();
        roomInTheDeepestTree();
    }

    private static void roomOfNobody() {
        Run x = begin("promise 13: BAD when there is no owner o");
        for (int o = 1; o < 12; o++) {
            x.room(o, BAD);
        }
        x.add(0, 5, 1);
        x.remove(1, true);
        x.room(1, BAD);
        lineOfTwelve(x);
        for (int o : Wrong.OWNERS) {
            x.room(o, BAD);
        }
    }

    private static void roomAtLeastZero() {
        Run x = begin("promise 13: at least 0, when o or somebody above is over its limit");
        smallTree(x);
        x.reserve(2, 40, 0);
        x.setLimit(2, 39, true);
        x.room(2, 0);
        x.setLimit(2, 0, true);
        x.room(2, 0);
        x.setLimit(2, 60, true);
        x.setLimit(1, 39, true);
        x.room(2, 0);
        x.room(1, 0);
        x.setLimit(1, 100, true);
        x.setLimit(0, 0, true);
        x.room(2, 0);
        x.room(3, 0);
        x.reserve(3, 0, 1);
        x.reserve(3, 1, REFUSED);
    }

    private static void roomOfFullOwner() {
        Run x = begin("promise 13: 0 when the total is the limit, 1 when it is 1 less");
        x.add(0, 10, 1);
        x.reserve(1, 9, 0);
        x.room(1, 1);
        x.reserve(1, 2, REFUSED);
        x.reserve(1, 1, 1);
        x.room(1, 0);
        x.reserve(1, 1, REFUSED);
        x.add(0, 0, 2);
        x.room(2, 0);
    }

    private static void roomGreatest() {
        Run x = begin("promise 13: the greatest n is 1000");
        x.add(0, 1000, 1);
        x.room(1, 1000);
        x.room(0, 1000);
        x.reserve(1, 1000, 0);
        x.room(1, 0);
        x.room(0, 0);
        x.giveBack(0, 1000);
        x.setLimit(1, 999, true);
        x.room(1, 999);
        x.reserve(1, 1000, REFUSED);
        x.reserve(1, 999, 0);
    }

    private static void roomByLimitAbove() {
        Run x = begin("promise 13: what reserve would not refuse, for o and all above it");
        smallTree(x);
        x.room(2, 60);
        x.setLimit(1, 59, true);
        x.room(2, 59);
        x.setLimit(0, 58, true);
        x.room(2, 58);
        x.setLimit(2, 57, true);
        x.room(2, 57);
        x.reserve(2, 58, REFUSED);
        x.reserve(2, 57, 0);
    }

    private static void roomWithoutFreeReservation() {
        Run x = begin("promise 13: as if there were room for a reservation, when there are ten");
        smallTree(x);
        for (int r = 0; r < 10; r++) {
            x.reserve(2, 1, r);
        }
        x.reserve(2, 50, FULL);
        x.room(2, 50);
        x.room(0, 990);
        x.giveBack(0, 1);
        x.reserve(2, 52, REFUSED);
        x.reserve(2, 51, 0);
    }

    private static void roomMindsNobodyBelow() {
        Run x = begin("promise 13: nobody below or beside o counts but by its total");
        smallTree(x);
        x.reserve(2, 40, 0);
        x.setLimit(2, 0, true);
        x.setLimit(3, 0, true);
        x.room(1, 60);
        x.room(0, 960);
        x.reserve(1, 60, 1);
    }

    private static void roomInTheDeepestTree() {
        Run x = begin("promise 13: owner 0 is eleven above owner 11");
        lineOfTwelve(x);
        x.setLimit(0, 4, true);
        x.room(11, 4);
        x.reserve(11, 5, REFUSED);
        x.reserve(11, 4, 0);
        x.room(11, 0);
    }

    private static void blocker() {
        blockerIsNone();
        blockerOfNobody();
        blockerWrongSpace();
        blockerIsItself();
        blockerIsTheNearest();
        blockerOfZero();
        blockerOfAThousand();
        blockerMindsNobodyBelow();
        blockerInTheDeepestTree();
    }

    private static void blockerIsNone() {
        Run x = begin("promise 14: BAD when there is none");
        smallTree(x);
        x.blocker(2, 60, BAD);
        x.blocker(2, 0, BAD);
        x.blocker(0, 1000, BAD);
        x.reserve(2, 60, 0);
        x.blocker(2, 0, BAD);
        x.blocker(1, 40, BAD);
    }

    private static void blockerOfNobody() {
        Run x = begin("promise 14: BAD when there is no owner o");
        x.reserve(0, 10, 0);
        x.setLimit(0, 5, true);
        for (int o = 1; o < 12; o++) {
            x.blocker(o, 0, BAD);
            x.blocker(o, 1000, BAD);
        }
        for (int o : Wrong.OWNERS) {
            x.blocker(o, 0, BAD);
            x.blocker(o, 1000, BAD);
        }
        x.add(0, 0, 1);
        x.blocker(1, 1, 1);
        x.remove(1, true);
        x.blocker(1, 1, BAD);
    }

    private static void blockerWrongSpace() {
        Run x = begin("promise 14: BAD when n is not 0 .. 1000");
        x.add(0, 0, 1);
        for (int n : Wrong.SPACES) {
            x.blocker(1, n, BAD);
        }
        x.reserve(0, 10, 0);
        x.setLimit(0, 0, true);
        for (int n : Wrong.SPACES) {
            x.blocker(0, n, BAD);
            x.blocker(1, n, BAD);
        }
        x.blocker(1, 1000, 1);
        x.blocker(1, 0, 0);
    }

    private static void blockerIsItself() {
        Run x = begin("promise 14: from o on up, o itself first");
        x.add(0, 10, 1);
        x.blocker(1, 10, BAD);
        x.blocker(1, 11, 1);
        x.reserve(1, 10, 0);
        x.blocker(1, 0, BAD);
        x.blocker(1, 1, 1);
        x.blocker(0, 990, BAD);
        x.blocker(0, 991, 0);
    }

    private static void blockerIsTheNearest() {
        Run x = begin("promise 14: the nearest, whatever its number and its limit");
        x.add(0, 50, 1);
        x.add(0, 40, 2);
        x.add(0, 30, 3);
        x.move(1, 2, 2);
        x.move(3, 1, 1);
        x.blocker(3, 30, BAD);
        x.blocker(3, 31, 3);
        x.blocker(3, 1000, 3);
        x.setLimit(3, 1000, true);
        x.blocker(3, 40, BAD);
        x.blocker(3, 41, 2);
        x.blocker(3, 50, 2);
        x.blocker(3, 51, 1);
        x.setLimit(0, 0, true);
        x.blocker(3, 1, 0);
        x.blocker(3, 41, 2);
        x.blocker(3, 51, 1);
    }

    private static void blockerOfZero() {
        Run x = begin("promise 14: n of 0 names who is over its limit already");
        smallTree(x);
        x.reserve(2, 40, 0);
        x.setLimit(1, 40, true);
        x.blocker(2, 0, BAD);
        x.setLimit(1, 39, true);
        x.blocker(2, 0, 1);
        x.blocker(1, 0, 1);
        x.blocker(0, 0, BAD);
        x.blocker(3, 0, BAD);
        x.setLimit(2, 39, true);
        x.blocker(2, 0, 2);
        x.setLimit(0, 39, true);
        x.blocker(3, 0, 0);
        x.reserve(2, 0, 1);
    }

    private static void blockerOfAThousand() {
        Run x = begin("promise 14: n of 1000 on a limit of 1000");
        x.add(0, 1000, 1);
        x.blocker(1, 1000, BAD);
        x.reserve(0, 1, 0);
        x.blocker(1, 1000, 0);
        x.blocker(1, 999, BAD);
        x.reserve(1, 1, 1);
        x.blocker(1, 1000, 1);
        x.blocker(1, 999, 0);
        x.blocker(1, 998, BAD);
    }

    private static void blockerMindsNobodyBelow() {
        Run x = begin("promise 14: nobody below o or beside it");
        smallTree(x);
        x.reserve(2, 40, 0);
        x.reserve(3, 50, 1);
        x.setLimit(2, 0, true);
        x.setLimit(3, 0, true);
        x.blocker(1, 0, BAD);
        x.blocker(1, 60, BAD);
        x.blocker(1, 61, 1);
    }

    private static void blockerInTheDeepestTree() {
        Run x = begin("promise 14: owner 0 is eleven above owner 11");
        lineOfTwelve(x);
        x.setLimit(0, 4, true);
        x.blocker(11, 4, BAD);
        x.blocker(11, 5, 0);
        x.setLimit(11, 3, true);
        x.blocker(11, 4, 11);
    }

    private static void over() {
        overNobody();
        overIsAboveTheLimit();
        overCountsWhatWaits();
        overByThoseBelow();
        overAllTwelve();
        overForgetsTheRemoved();
        overAfterMove();
    }

    private static void overNobody() {
        Run x = begin("promise 15: 0 when nobody is");
        x.over(0);
        x.setLimit(0, 0, true);
        x.add(0, 0, 1);
        x.reserve(1, 0, 0);
        x.over(0);
    }

    private static void overIsAboveTheLimit() {
        Run x = begin("promise 15: above the limit, not at it");
        smallTree(x);
        x.reserve(2, 60, 0);
        x.reserve(1, 40, 1);
        x.over(0);
        x.setLimit(2, 59, true);
        x.over(0b0100);
        x.setLimit(1, 99, true);
        x.over(0b0110);
        x.setLimit(0, 100, true);
        x.over(0b0110);
        x.setLimit(0, 99, true);
        x.over(0b0111);
        x.giveBack(1, 40);
        x.over(0b0100);
        x.giveBack(0, 60);
        x.over(0);
    }

    private static void overCountsWhatWaits() {
        Run x = begin("promise 15: used, waiting and reserved space alike");
        x.add(0, 5, 1);
        x.reserve(1, 1, 0);
        x.setLimit(1, 0, true);
        x.over(0b10);
        x.use(0, 1, 0);
        x.over(0b10);
        x.release(1, 1, 0);
        x.over(0b10);
        x.free(1, 1);
        x.over(0);
    }

    private static void overByThoseBelow() {
        Run x = begin("promise 15: by what those below have, though they are not over themselves");
        smallTree(x);
        x.reserve(2, 10, 0);
        x.setLimit(1, 9, true);
        x.over(0b0010);
    }

    private static void overAllTwelve() {
        Run x = begin("promise 15: bit o for owner o, 0 to 11");
        lineOfTwelve(x);
        x.reserve(11, 1, 0);
        int due = 0;
        for (int o = 0; o < 12; o++) {
            x.setLimit(o, 0, true);
            due |= 1 << o;
            x.over(due);
        }
        x.giveBack(0, 1);
        x.over(0);
    }

    private static void overForgetsTheRemoved() {
        Run x = begin("promise 15: only owners that are there");
        x.add(0, 5, 1);
        x.reserve(1, 5, 0);
        x.setLimit(1, 0, true);
        x.over(0b10);
        x.giveBack(0, 5);
        x.remove(1, true);
        x.reserve(0, 5, 0);
        x.over(0);
        x.setLimit(0, 4, true);
        x.over(0b01);
    }

    private static void overAfterMove() {
        Run x = begin("promise 15: whose total is above now, after a move");
        smallTree(x);
        x.reserve(2, 40, 0);
        x.setLimit(1, 39, true);
        x.over(0b0010);
        x.move(2, 3, 3);
        x.over(0);
        x.setLimit(3, 39, true);
        x.over(0b1000);
    }

    private static void below() {
        belowNobody();
        belowRemoved();
        belowALeaf();
        belowOwnerZero();
        belowInTheDeepestTree();
        belowAfterMove();
    }

    private static void belowNobody() {
        Run x = begin("promise 16: 0 when there is none");
        for (int o = 1; o < 12; o++) {
            x.below(o, 0);
        }
        for (int o : Wrong.OWNERS) {
            x.below(o, 0);
        }
        lineOfTwelve(x);
        for (int o : Wrong.OWNERS) {
            x.below(o, 0);
        }
    }

    private static void belowRemoved() {
        Run x = begin("promise 16: 0 when it was removed, and its number counts for nobody");
        smallTree(x);
        x.remove(2, true);
        x.below(2, 0);
        x.below(1, 0b0010);
        x.below(0, 0b1011);
        x.add(3, 5, 2);
        x.below(1, 0b0010);
        x.below(3, 0b1100);
    }

    private static void belowALeaf() {
        Run x = begin("promise 16: at owner o, when nobody is below");
        x.below(0, 1);
        for (int o = 1; o < 12; o++) {
            x.add(0, 5, o);
            x.below(o, 1 << o);
        }
    }

    private static void belowOwnerZero() {
        Run x = begin("promise 16: at and below owner 0 are all, up to twelve");
        int due = 1;
        for (int o = 1; o < 12; o++) {
            x.add(o / 2, 5, o);
            due |= 1 << o;
            x.below(0, due);
        }
    }

    private static void belowInTheDeepestTree() {
        Run x = begin("promise 16: nobody above it, twelve in a line");
        lineOfTwelve(x);
        for (int o = 0; o < 12; o++) {
            x.below(o, 0xFFF & -(1 << o));
        }
    }

    private static void belowAfterMove() {
        Run x = begin("promise 16: below a greater number too, after a move");
        lineOfTwelve(x);
        x.move(2, 0, 0);
        x.move(1, 11, 11);
        x.below(0, 0xFFF);
        x.below(1, 0x002);
        x.below(2, 0xFFE);
        x.below(11, 0x802);
    }
}
