import java.util.function.IntConsumer;

/** "An object is used for at most 512 calls after it has been made": all hold to the last of them. */
public final class CallsTest {
    private static final int BAD = QuotaTree.BAD;
    private static final int FULL = QuotaTree.FULL;
    private static final int REFUSED = QuotaTree.REFUSED;
    private static final int CALLS = 512;
    private static final int LATER_CALLS = 5000;

    private static final Check check = new Check();

    public static void main(String[] args) {
        eachAsTheLastCall();
        lastCallOnFullObject();
        sameChangeAgainAndAgain();
        sameQuestionAgainAndAgain();
        changesInTurn();
        refusedCallsOnly();
        questionsOnly();
        numbersTakenAgain();
        laterCallsEnd();
        check.end();
    }

    private static Run begin(String name) {
        check.part("512 calls, " + name);
        return new Run(check);
    }

    /** 511 calls that leave owner 1 below 0, which has 2 used, 3 waiting and 4 reserved as number 0. */
    private static Run afterAllButOne(String name) {
        Run x = begin(name);
        while (x.calls() < CALLS - 12) {
            x.add(0, 10, 1);
            x.reserve(1, 5, 0);
            x.use(0, 5, 0);
            x.release(1, 5, 0);
            x.free(0, 5);
            x.remove(1, true);
        }
        while (x.calls() < CALLS - 5) {
            x.over(0);
        }
        x.add(0, 10, 1);
        x.reserve(1, 9, 0);
        x.use(0, 5, 4);
        x.release(1, 3, 2);
        check.due("calls made", x.calls(), CALLS - 1);
        return x;
    }

    private static void eachAsTheLastCall() {
        afterAllButOne("add last").add(1, 7, 2);
        afterAllButOne("add BAD last").add(2, 7, BAD);
        afterAllButOne("remove last").remove(1, false);
        afterAllButOne("setLimit last").setLimit(1, 8, true);
        afterAllButOne("move last").move(1, 0, 0);
        afterAllButOne("reserve last").reserve(1, 1, 1);
        afterAllButOne("reserve REFUSED last").reserve(1, 2, REFUSED);
        afterAllButOne("use last").use(0, 4, 0);
        afterAllButOne("giveBack last").giveBack(0, 4);
        afterAllButOne("release last").release(1, 2, 0);
        afterAllButOne("free last").free(0, 3);
        afterAllButOne("recover last").recover(1);
        afterAllButOne("total last").total(0, 9);
        afterAllButOne("room last").room(1, 1);
        afterAllButOne("blocker last").blocker(1, 2, 1);
        afterAllButOne("over last").over(0);
        afterAllButOne("below last").below(0, 0b11);
    }

    private static void lastCallOnFullObject() {
        fullToTheEnd("the thirteenth owner last").add(0, 0, FULL);
        fullToTheEnd("the eleventh reservation last").reserve(0, 0, FULL);
    }

    private static Run fullToTheEnd(String name) {
        Run x = begin(name);
        for (int o = 1; o < 12; o++) {
            x.add(o - 1, 1000, o);
        }
        for (int r = 0; r < 10; r++) {
            x.reserve(11, 100, r);
        }
        while (x.calls() < CALLS - 1) {
            x.total(11, 1000);
        }
        return x;
    }

    /** Calls one thing as often as is promised; it is given how many calls have been made. */
    private static void again(Run x, IntConsumer call) {
        while (x.calls() < CALLS) {
            call.accept(x.calls());
        }
    }

    private static void sameChangeAgainAndAgain() {
        Run add = begin("add again and again");
        again(add, made -> add.add(0, made, made < 11 ? made + 1 : FULL));
        Run remove = begin("remove again and again");
        remove.add(0, 10, 1);
        again(remove, made -> remove.remove(1, made == 1));
        Run setLimit = begin("setLimit again and again");
        again(setLimit, made -> setLimit.setLimit(0, made, true));
        Run move = begin("move again and again");
        move.add(0, 10, 1);
        move.add(0, 10, 2);
        again(move, made -> move.move(1, made % 2 * 2, made % 2 * 2));
        Run reserve = begin("reserve again and again");
        again(reserve, made -> reserve.reserve(0, 1, made < 10 ? made : FULL));
        Run use = begin("use again and again");
        use.reserve(0, 1000, 0);
        again(use, made -> use.use(0, 1, 1000 - made));
        Run giveBack = begin("giveBack again and again");
        giveBack.reserve(0, 1000, 0);
        again(giveBack, made -> giveBack.giveBack(0, made == 1 ? 1000 : BAD));
        Run release = begin("release again and again");
        release.reserve(0, 1000, 0);
        release.use(0, 1000, 0);
        again(release, made -> release.release(0, 1, 1001 - made));
        Run free = begin("free again and again");
        free.reserve(0, 1000, 0);
        free.use(0, 1000, 0);
        free.release(0, 999, 1);
        again(free, made -> free.free(0, made == 3 ? 999 : 0));
        Run nothing = begin("free of nothing again and again");
        again(nothing, made -> nothing.free(0, 0));
        Run recover = begin("recover again and again");
        recover.reserve(0, 1000, 0);
        again(recover, made -> recover.recover(made == 1 ? 1 : 0));
    }

    private static void sameQuestionAgainAndAgain() {
        Run total = begin("total again and again");
        total.reserve(0, 7, 0);
        again(total, made -> total.total(0, 7));
        Run empty = begin("total of nothing again and again");
        again(empty, made -> empty.total(0, 0));
        Run room = begin("room again and again");
        room.reserve(0, 7, 0);
        again(room, made -> room.room(0, 993));
        Run blocker = begin("blocker again and again");
        again(blocker, made -> blocker.blocker(0, 1000, BAD));
        Run over = begin("over again and again");
        over.reserve(0, 7, 0);
        over.setLimit(0, 6, true);
        again(over, made -> over.over(1));
        Run below = begin("below again and again");
        below.add(0, 10, 1);
        again(below, made -> below.below(0, 0b11));
    }

    private static void changesInTurn() {
        Run x = begin("release and use one by one");
        x.reserve(0, 1000, 0);
        for (int i = 1; i <= 255; i++) {
            x.use(0, 1, 1000 - i);
            x.release(0, 1, 0);
        }
        x.free(0, 255);
        check.due("calls made", x.calls(), CALLS);
    }

    private static void refusedCallsOnly() {
        Run x = begin("511 refused calls, then one that is done");
        while (x.calls() < CALLS - 14) {
            x.add(1, 5, BAD);
            x.remove(0, false);
            x.setLimit(0, 1001, false);
            x.move(0, 0, BAD);
            x.use(0, 0, BAD);
            x.giveBack(0, BAD);
            x.release(0, 1, BAD);
        }
        while (x.calls() < CALLS - 1) {
            x.reserve(1, 0, BAD);
        }
        x.reserve(0, 1000, 0);
    }

    private static void questionsOnly() {
        Run x = begin("511 questions, then a change");
        while (x.calls() < CALLS - 5) {
            x.total(0, 0);
            x.room(0, 1000);
            x.blocker(0, 1000, BAD);
            x.over(0);
            x.below(0, 1);
        }
        while (x.calls() < CALLS - 1) {
            x.free(0, 0);
        }
        x.add(0, 1000, 1);
    }

    private static void numbersTakenAgain() {
        Run x = begin("a reservation taken and given back, 256 times");
        while (x.calls() < CALLS) {
            x.reserve(0, 1000, 0);
            x.giveBack(0, 1000);
        }
        Run y = begin("an owner added and removed, 256 times");
        while (y.calls() < CALLS) {
            y.add(0, 1000, 1);
            y.remove(1, true);
        }
        Run z = begin("ten reserved and recovered, 46 times");
        while (z.calls() < CALLS - 11) {
            for (int r = 0; r < 10; r++) {
                z.reserve(0, 100, r);
            }
            z.recover(10);
        }
    }

    /** What later calls answer is free; that they end without a throw is asked by rule 7 of LANGUAGE.md. */
    private static void laterCallsEnd() {
        check.part("after 512 calls");
        QuotaTree x = new QuotaTree();
        for (int i = 0; i < LATER_CALLS; i++) {
            x.add(i % 13, i % 1002);
            x.reserve(i % 12, i % 50);
            x.move(i % 12, i / 12 % 12);
            x.use(i % 10, i % 25);
            x.release(i % 12, i % 5);
            x.setLimit(i % 12, i * 7 % 1002);
            x.giveBack(i % 11);
            x.free(i % 13);
            x.remove(i * 5 % 13);
            x.room(i % 12);
            x.blocker(i % 12, i % 1002);
            x.over();
            x.below(i % 12);
            x.total(i % 12);
        }
        x.recover();
    }
}
