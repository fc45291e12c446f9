/** The boundary cases of promises 7 to 10, a method for each sentence. */
public final class BoundarySolveTest {
    private static final Check check = new Check();

    public static void main(String[] args) {
        whetherTheStoreIsDone();
        leastMovesOfADoneStore();
        leastMovesNone();
        leastMovesOfOneMove();
        leastMovesOfLongWays();
        leastPushesOfADoneStore();
        leastPushesNone();
        leastPushesNotInTheFewestMoves();
        leastPushesOfLongWays();
        bestMoveNoneIfDone();
        bestMoveNoneIfItCantBe();
        bestMoveTheSmallestDirection();
        bestMoveOfALeastWay();
        check.end();
    }

    private static BoxPusher[] doneStores() {
        return new BoxPusher[] {new BoxPusher(), Store.drawn("@#--", "#---", "----", "----"),
            Store.drawn("@---", "-.--", "----", "----"), Store.drawn("@---", "-*--", "----", "----"),
            Store.drawn("@--*", "----", "----", "*---"), Store.drawn("+..-", "-*--", "-*--", "---#")};
    }

    private static BoxPusher[] storesThatCantBeDone() {
        return new BoxPusher[] {
            Store.drawn("@---", "-$--", "----", "----"),
            Store.drawn("@---", "-*--", "--$-", "----"),
            Store.drawn("$---", "-@--", "----", "---."),
            Store.drawn("-$--", "-@--", "--.-", "----"),
            Store.drawn(".$$.", "----", "----", "@---"),
            Store.drawn("@#--", "#---", "--$.", "----"),
            Store.drawn("-$.@", "####", "----", "----"),
            Store.drawn("@---", "-$--", "---#", "--#."),
            Store.drawn("@$$.", "####", "--.-", "----")};
    }

    private static void whetherTheStoreIsDone() {
        check.sentence("Promise 7: Whether the store is done");
        for (BoxPusher x : doneStores()) {
            check.due(Store.stand(x) + ": done()", x.done(), true);
        }
        for (BoxPusher x : storesThatCantBeDone()) {
            check.due(Store.stand(x) + ": done()", x.done(), false);
        }
        BoxPusher x = Store.drawn("@$.-", "----", "----", "----");
        check.due("before the goal: done()", x.done(), false);
        x.move(3);
        check.due("on the goal: done()", x.done(), true);
        x.move(3);
        check.due("past the goal: done()", x.done(), false);
        x.undo();
        check.due("taken back: done()", x.done(), true);
        x.cell(2, BoxPusher.FLOOR);
        check.due("the goal made floor: done()", x.done(), false);
        x.box(2, false);
        check.due("the only box taken off: done()", x.done(), true);
    }

    private static void leastMovesOfADoneStore() {
        check.sentence("Promise 8: The least number of moves after which the store is done, of a done store");
        for (BoxPusher x : doneStores()) {
            check.due(Store.stand(x) + ": leastMoves()", x.leastMoves(), 0);
        }
    }

    private static void leastMovesNone() {
        check.sentence("Promise 8: NONE if it can't be");
        for (BoxPusher x : storesThatCantBeDone()) {
            check.due(Store.stand(x) + ": leastMoves()", x.leastMoves(), BoxPusher.NONE);
        }
        // It can be until the box has been pushed into the corner, and again when that is taken back.
        BoxPusher x = Store.drawn("@$.-", "----", "----", "----");
        check.due("leastMoves()", x.leastMoves(), 1);
        Store.moveAll(x, 3, 3);
        check.due("in the corner: leastMoves()", x.leastMoves(), BoxPusher.NONE);
        x.undo();
        check.due("taken back: leastMoves()", x.leastMoves(), 0);
    }

    private static void leastMovesOfOneMove() {
        check.sentence("Promise 8: The least number of moves after which the store is done, of one move");
        check.due("up", Store.drawn("---.", "---$", "---@", "----").leastMoves(), 1);
        check.due("down", Store.drawn("----", "@---", "$---", ".---").leastMoves(), 1);
        check.due("left", Store.drawn(".$@-", "----", "----", "----").leastMoves(), 1);
        check.due("right", Store.drawn("----", "----", "----", "-@$.").leastMoves(), 1);
        check.due("one of two boxes", Store.drawn("*---", "----", "----", "-@$.").leastMoves(), 1);
    }

    private static void leastMovesOfLongWays() {
        check.sentence("Promise 8: The least number of moves after which the store is done, of long ways");
        check.due("leastMoves()", Store.drawn("#---", "-*#-", "-$-@", "-.--").leastMoves(), 38);
        check.due("leastMoves()", Store.drawn("-@--", "-#--", "-*$.", "#---").leastMoves(), 39);
        check.due("leastMoves()", Store.drawn("@#--", "-$--", ".-$-", ".--#").leastMoves(), 34);
    }

    private static void leastPushesOfADoneStore() {
        check.sentence("Promise 9: The least number of pushes, of a done store");
        for (BoxPusher x : doneStores()) {
            check.due(Store.stand(x) + ": leastPushes()", x.leastPushes(), 0);
        }
    }

    private static void leastPushesNone() {
        check.sentence("Promise 9: NONE");
        for (BoxPusher x : storesThatCantBeDone()) {
            check.due(Store.stand(x) + ": leastPushes()", x.leastPushes(), BoxPusher.NONE);
        }
    }

    private static void leastPushesNotInTheFewestMoves() {
        check.sentence("Promise 9: The least number of pushes in moves after which the store is done");
        // Twice down to 14 are the fewest moves; from the right, after a walk, one push to 5 will do.
        BoxPusher x = Store.drawn("--@*", "-.$-", "----", "--.-");
        check.due("leastMoves()", x.leastMoves(), 2);
        check.due("leastPushes()", x.leastPushes(), 1);
        // Moves that push nothing do not count: the one push comes after seven moves round the walls.
        BoxPusher y = Store.drawn("@.$-", "-##-", "----", "----");
        check.due("round: leastMoves()", y.leastMoves(), 8);
        check.due("round: leastPushes()", y.leastPushes(), 1);
    }

    private static void leastPushesOfLongWays() {
        check.sentence("Promise 9: The least number of pushes, of long ways");
        check.due("leastPushes()", Store.drawn("#---", "-*#-", "-$-@", "-.--").leastPushes(), 7);
        check.due("leastPushes()", Store.drawn("-@--", "-#--", "-*$.", "#---").leastPushes(), 7);
        check.due("leastPushes()", Store.drawn("@#--", "-$--", ".-$-", ".--#").leastPushes(), 9);
    }

    private static void bestMoveNoneIfDone() {
        check.sentence("Promise 10: NONE if the store is done");
        for (BoxPusher x : doneStores()) {
            check.due(Store.stand(x) + ": bestMove()", x.bestMove(), BoxPusher.NONE);
        }
    }

    private static void bestMoveNoneIfItCantBe() {
        check.sentence("Promise 10: NONE if the store can't be done");
        for (BoxPusher x : storesThatCantBeDone()) {
            check.due(Store.stand(x) + ": bestMove()", x.bestMove(), BoxPusher.NONE);
        }
    }

    private static void bestMoveTheSmallestDirection() {
        check.sentence("Promise 10: The smallest direction of a move with which a way of the least number of moves begins");
        check.due("up or left", Store.drawn("----", "----", ".$--", "---@").bestMove(), 0);
        check.due("up or right", Store.drawn("----", "--$.", "----", "@---").bestMove(), 0);
        check.due("down or left", Store.drawn("---@", "----", ".$--", "----").bestMove(), 1);
        check.due("down or right", Store.drawn("@---", "--$.", "----", "----").bestMove(), 1);
        check.due("left or right", Store.drawn("-+--", "-$--", "----", "----").bestMove(), 2);
        check.due("up or down", Store.drawn("----", "+$--", "----", "----").bestMove(), 0);
    }

    private static void bestMoveOfALeastWay() {
        check.sentence("Promise 10: a way of the least number of moves");
        // Smaller directions are possible in each of these, but no least way begins with them.
        check.due("down", Store.drawn("----", "--@-", "--$-", "--.-").bestMove(), 1);
        check.due("left", Store.drawn("----", ".$@-", "----", "----").bestMove(), 2);
        check.due("right", Store.drawn("----", "-@$.", "----", "----").bestMove(), 3);
        // Smaller directions are not possible in these.
        check.due("right from a corner", Store.drawn("@---", "#-$.", "----", "----").bestMove(), 3);
        check.due("right, the rest blocked", Store.drawn("#---", "@$-.", "#---", "----").bestMove(), 3);
        // The first of the fewest moves, not of the fewest pushes.
        check.due("down, two pushes", Store.drawn("--@*", "-.$-", "----", "--.-").bestMove(), 1);
        BoxPusher x = Store.drawn("#---", "-*#-", "-$-@", "-.--");
        for (int left = 38; left > 0; left--) {
            check.due("leastMoves()", x.leastMoves(), left);
            check.due("the best move is possible", x.move(x.bestMove()) >= 0, true);
        }
        check.due("at the end, done()", x.done(), true);
        check.due("at the end, bestMove()", x.bestMove(), BoxPusher.NONE);
    }
}
