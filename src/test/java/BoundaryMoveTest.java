/** The boundary cases of promises 5, 6, 15 and 16, a method for each sentence. */
public final class BoundaryMoveTest {
    private static final Check check = new Check();

    /** Round the four cells 0, 1, 5, 4, so that every direction and cell tells which move it was. */
    private static final int[] ROUND = {3, 1, 2, 0};
    private static final int[] ROUND_CELLS = {0, 1, 5, 4};

    /** From cell 4 with a box on 5: it is pushed to 6 and back, two pushes in ten moves. */
    private static final int[] TO_AND_FRO = {3, 0, 3, 3, 1, 2, 0, 2, 2, 1};

    public static void main(String[] args) {
        moveBadKind();
        moveBlocked();
        moveAnswersWhetherABoxWasPushed();
        undoNone();
        undoTheLastNotTakenBack();
        undoOfTheLastTwentyAtMost();
        undoAnswersItsDirection();
        pushesOfMovesMade();
        pushesNotTakenBack();
        pushesSinceSuccess();
        pushesNotSinceARefusedCall();
        pushesThatHaveLeftTheRow();
        aRowOfAtMostTwenty();
        theOldestLeavesForGood();
        undoTakesTheLastOff();
        nineteenOfTheExample();
        aRefusedMoveIsNotInTheRow();
        all512CallsAreAnswered();
        check.end();
    }

    private static void walkRound(BoxPusher x, int from, int to) {
        for (int i = from; i < to; i++) {
            check.due("move " + i + " of the round", x.move(ROUND[i % 4]), 0);
        }
    }

    /** Takes back the moves of the round from the last one on, and then there are none. */
    private static void takeBackAll(BoxPusher x, int last, int count) {
        for (int i = last; i > last - count; i--) {
            check.due("undo() of move " + i, x.undo(), ROUND[i % 4]);
            check.due("undo() of move " + i + ", pusher()", x.pusher(), ROUND_CELLS[i % 4]);
        }
        int end = x.pusher();
        check.due("undo() after " + count, x.undo(), BoxPusher.NONE);
        check.due("undo() after " + count + ", pusher()", x.pusher(), end);
    }

    private static void moveBadKind() {
        check.sentence("Promise 5: direction not in 0 to 3: BAD_KIND");
        // 256 and 65539 would be directions if they were cut to a byte or a short.
        int[] wrong = {-1, 4, 5, -4, 256, 65539, Integer.MIN_VALUE, Integer.MAX_VALUE};
        for (int direction : wrong) {
            BoxPusher x = Store.drawn("----", "-@$-", "----", "----");
            check.due("move(" + direction + ")", x.move(direction), BoxPusher.BAD_KIND);
            check.due("after move(" + direction + ")", Store.stand(x), "[6] 5 0");
            check.due("after move(" + direction + "), undo()", x.undo(), BoxPusher.NONE);
            BoxPusher shutIn = Store.drawn("@#--", "#---", "----", "----");
            check.due("no way, move(" + direction + ")", shutIn.move(direction), BoxPusher.BAD_KIND);
        }
        int[] to = {1, 9, 4, 6};
        for (int direction = 0; direction <= 3; direction++) {
            BoxPusher x = Store.drawn("----", "-@--", "----", "----");
            check.due("move(" + direction + ")", x.move(direction), 0);
            check.due("move(" + direction + "), pusher()", x.pusher(), to[direction]);
        }
    }

    private static void moveBlocked() {
        check.sentence("Promise 5: the move is not possible: BLOCKED");
        BoxPusher x = Store.drawn("@$$-", "#---", "----", "----");
        check.due("the edge: move(0)", x.move(0), BoxPusher.BLOCKED);
        check.due("a wall: move(1)", x.move(1), BoxPusher.BLOCKED);
        check.due("the edge: move(2)", x.move(2), BoxPusher.BLOCKED);
        check.due("two boxes: move(3)", x.move(3), BoxPusher.BLOCKED);
        check.due("all refused", Store.stand(x), "[1, 2] 0 0");
        BoxPusher y = Store.drawn("----", "----", "#$@$", "--#-");
        check.due("a box before a wall: move(2)", y.move(2), BoxPusher.BLOCKED);
        check.due("a box at the edge: move(3)", y.move(3), BoxPusher.BLOCKED);
        check.due("all refused", Store.stand(y), "[9, 11] 10 0");
    }

    private static void moveAnswersWhetherABoxWasPushed() {
        check.sentence("Promise 5: Else answers 1 if a box was pushed, 0 if not");
        BoxPusher x = Store.drawn("@$--", "----", "----", "----");
        check.due("move(3)", x.move(3), 1);
        check.due("to the edge: move(3)", x.move(3), 1);
        check.due("at the edge: move(3)", x.move(3), BoxPusher.BLOCKED);
        check.due("away from the box: move(2)", x.move(2), 0);
        check.due("up to the box: move(3)", x.move(3), 0);
        check.due("past the box: move(1)", x.move(1), 0);
        check.due("after all", Store.stand(x), "[3] 6 2");
        BoxPusher y = Store.drawn("----", "@$.-", "----", "----");
        check.due("onto a goal: move(3)", y.move(3), 1);
        check.due("off a goal: move(3)", y.move(3), 1);
        check.due("after all", Store.stand(y), "[7] 6 2");
    }

    private static void undoNone() {
        check.sentence("Promise 6: There is none: NONE");
        BoxPusher x = new BoxPusher();
        check.due("a new object: undo()", x.undo(), BoxPusher.NONE);
        x.move(0);
        x.move(4);
        check.due("after refused moves: undo()", x.undo(), BoxPusher.NONE);
        x.move(1);
        check.due("after a move: undo()", x.undo(), 1);
        check.due("when it is taken back: undo()", x.undo(), BoxPusher.NONE);
        check.due("and again: undo()", x.undo(), BoxPusher.NONE);
        check.due("after all", Store.stand(x), "[] 0 0");
        x.move(3);
        check.due("a move after that: undo()", x.undo(), 3);
    }

    private static void undoTheLastNotTakenBack() {
        check.sentence("Promise 6: Takes the last move back that was made and not taken back");
        BoxPusher x = Store.drawn("@$--", "----", "$---", "----");
        Store.moveAll(x, 3, 1, 2, 1);
        check.due("four moves", Store.stand(x), "[2, 12] 8 2");
        check.due("undo()", x.undo(), 1);
        check.due("a push", Store.stand(x), "[2, 8] 4 1");
        check.due("undo()", x.undo(), 2);
        check.due("a walk", Store.stand(x), "[2, 8] 5 1");
        x.move(3);
        check.due("another move made", Store.stand(x), "[2, 8] 6 1");
        check.due("undo() of it", x.undo(), 3);
        check.due("undo() of the one before", x.undo(), 1);
        check.due("undo() of the first", x.undo(), 3);
        check.due("all taken back", Store.stand(x), "[1, 8] 0 0");
        check.due("undo()", x.undo(), BoxPusher.NONE);
    }

    private static void undoOfTheLastTwentyAtMost() {
        check.sentence("Promise 6: of the last twenty at most");
        for (int moves = 19; moves <= 22; moves++) {
            BoxPusher x = new BoxPusher();
            walkRound(x, 0, moves);
            takeBackAll(x, moves - 1, Math.min(moves, 20));
        }
    }

    private static void undoAnswersItsDirection() {
        check.sentence("Promise 6: Else answers its direction");
        for (int direction = 0; direction < 4; direction++) {
            BoxPusher walk = Store.drawn("----", "-@--", "----", "----");
            walk.move(direction);
            check.due("a walk, undo()", walk.undo(), direction);
            check.due("a walk, after undo()", Store.stand(walk), "[] 5 0");
        }
        BoxPusher[] stores = {Store.drawn("----", "$---", "@---", "----"), Store.drawn("----", "@---", "$---", "----"),
            Store.drawn("-$@-", "----", "----", "----"), Store.drawn("-@$-", "----", "----", "----")};
        for (int direction = 0; direction < 4; direction++) {
            BoxPusher push = stores[direction];
            String before = Store.stand(push);
            check.due("move(" + direction + ")", push.move(direction), 1);
            check.due("a push, undo()", push.undo(), direction);
            check.due("a push, after undo()", Store.stand(push), before);
        }
    }

    private static void pushesOfMovesMade() {
        check.sentence("Promise 15: How many pushes there were in the moves made");
        BoxPusher x = Store.drawn("@$--", "----", "----", "----");
        check.due("no move: pushes()", x.pushes(), 0);
        x.move(3);
        check.due("a push: pushes()", x.pushes(), 1);
        x.move(2);
        check.due("a walk: pushes()", x.pushes(), 1);
        Store.moveAll(x, 3, 3);
        check.due("a second push: pushes()", x.pushes(), 2);
        x.move(3);
        check.due("a blocked push: pushes()", x.pushes(), 2);
    }

    private static void pushesNotTakenBack() {
        check.sentence("Promise 15: and not taken back");
        BoxPusher x = Store.drawn("@$--", "----", "----", "----");
        Store.moveAll(x, 3, 2, 3, 3);
        check.due("pushes()", x.pushes(), 2);
        int[] left = {1, 1, 1, 0, 0};
        for (int count : left) {
            x.undo();
            check.due("after undo(), pushes()", x.pushes(), count);
        }
        x.move(3);
        check.due("pushed again, pushes()", x.pushes(), 1);
    }

    private static void pushesSinceSuccess() {
        check.sentence("Promise 15: since cell, box or place was last called with success");
        for (int way = 0; way < 4; way++) {
            BoxPusher x = Store.drawn("@$--", "----", "----", "----");
            x.move(3);
            int answer = way == 0 ? x.cell(9, BoxPusher.FLOOR) : way == 1 ? x.box(9, true)
                : way == 2 ? x.box(2, false) : x.place(1);
            check.due("way " + way + " has success", answer >= 0, true);
            check.due("way " + way + ", pushes()", x.pushes(), 0);
            if (way != 2) {
                check.due("way " + way + ", move(3)", x.move(3), 1);
                check.due("way " + way + ", pushes()", x.pushes(), 1);
                check.due("way " + way + ", undo()", x.undo(), 3);
            }
            check.due("way " + way + ", undo()", x.undo(), BoxPusher.NONE);
            check.due("way " + way + ", pushes()", x.pushes(), 0);
        }
    }

    private static void pushesNotSinceARefusedCall() {
        check.sentence("Promise 15: called with success");
        BoxPusher x = Store.drawn("@$--", "----", "--$-", "---#");
        x.move(3);
        int[] refused = {x.cell(16, 0), x.cell(9, 3), x.cell(1, BoxPusher.WALL), x.cell(2, BoxPusher.WALL),
            x.box(-1, true), x.box(15, true), x.box(9, true), x.box(9, false), x.place(-1), x.place(15), x.place(10)};
        int[] due = {BoxPusher.BAD_CELL, BoxPusher.BAD_KIND, BoxPusher.TAKEN, BoxPusher.TAKEN,
            BoxPusher.BAD_CELL, BoxPusher.TAKEN, BoxPusher.FULL, BoxPusher.NONE, BoxPusher.BAD_CELL,
            BoxPusher.TAKEN, BoxPusher.TAKEN};
        for (int i = 0; i < due.length; i++) {
            check.due("refused call " + i, refused[i], due[i]);
        }
        check.due("pushes()", x.pushes(), 1);
        check.due("undo()", x.undo(), 3);
        check.due("pushes()", x.pushes(), 0);
    }

    private static void pushesThatHaveLeftTheRow() {
        check.sentence("Promise 15: the moves made and not taken back");
        // Two pushes in ten moves: of four hundred moves twenty can be taken back, with four pushes.
        BoxPusher x = Store.drawn("----", "@$--", "----", "----");
        for (int i = 0; i < 400; i++) {
            int due = i % 10 == 0 || i % 10 == 5 ? 1 : 0;
            check.due("move " + i, x.move(TO_AND_FRO[i % 10]), due);
        }
        check.due("after 400 moves", Store.stand(x), "[5] 4 80");
        for (int i = 399; i >= 380; i--) {
            check.due("undo() of move " + i, x.undo(), TO_AND_FRO[i % 10]);
        }
        check.due("undo()", x.undo(), BoxPusher.NONE);
        check.due("after 20 undo", Store.stand(x), "[5] 4 76");
    }

    private static void aRowOfAtMostTwenty() {
        check.sentence("Promise 16: the moves that can be taken back are a row of at most twenty");
        for (int moves = 0; moves <= 64; moves++) {
            BoxPusher x = new BoxPusher();
            walkRound(x, 0, moves);
            takeBackAll(x, moves - 1, Math.min(moves, 20));
        }
    }

    private static void theOldestLeavesForGood() {
        check.sentence("Promise 16: where that would make twenty-one, the oldest leaves it for good");
        // A push as the first of twenty can be taken back, as the first of twenty-one it can't.
        for (int moves = 20; moves <= 21; moves++) {
            BoxPusher x = Store.drawn("@$--", "----", "----", "----");
            x.move(3);
            for (int i = 1; i < moves; i++) {
                x.move(i % 2 == 0 ? 3 : 2);
            }
            for (int i = 0; i < 20; i++) {
                check.due("of " + moves + ", undo() has one", x.undo() >= 0, true);
            }
            check.due("of " + moves + ", undo()", x.undo(), BoxPusher.NONE);
            check.due("of " + moves + ", after all", Store.stand(x), moves == 20 ? "[1] 0 0" : "[2] 1 1");
        }
        // It does not come back when there is room again.
        BoxPusher x = new BoxPusher();
        walkRound(x, 0, 21);
        check.due("undo()", x.undo(), ROUND[0]);
        takeBackAll(x, 19, 19);
        check.due("pusher()", x.pusher(), 1);
    }

    private static void undoTakesTheLastOff() {
        check.sentence("Promise 16: undo takes the last one off it");
        // At the edge of twenty: as many moves as undo make the row full again, one more drops the oldest.
        BoxPusher x = new BoxPusher();
        walkRound(x, 0, 20);
        check.due("undo()", x.undo(), ROUND[19 % 4]);
        walkRound(x, 19, 20);
        takeBackAll(x, 19, 20);
        BoxPusher y = new BoxPusher();
        walkRound(y, 0, 20);
        check.due("undo()", y.undo(), ROUND[19 % 4]);
        walkRound(y, 19, 21);
        takeBackAll(y, 20, 20);
        // All taken back, and a full row again.
        BoxPusher z = new BoxPusher();
        walkRound(z, 0, 24);
        takeBackAll(z, 23, 20);
        walkRound(z, 4, 27);
        takeBackAll(z, 26, 20);
    }

    private static void nineteenOfTheExample() {
        check.sentence("Promise 16: after 25 moves, three undo and two moves there are 19");
        BoxPusher x = new BoxPusher();
        walkRound(x, 0, 25);
        for (int i = 24; i > 21; i--) {
            check.due("undo() of move " + i, x.undo(), ROUND[i % 4]);
        }
        walkRound(x, 22, 24);
        takeBackAll(x, 23, 19);
        check.due("pusher()", x.pusher(), 1);
    }

    private static void aRefusedMoveIsNotInTheRow() {
        check.sentence("Promise 16: a move that is made comes to its end");
        BoxPusher x = new BoxPusher();
        walkRound(x, 0, 20);
        for (int i = 0; i < 25; i++) {
            check.due("move(0)", x.move(0), BoxPusher.BLOCKED);
            check.due("move(4)", x.move(4), BoxPusher.BAD_KIND);
        }
        takeBackAll(x, 19, 20);
        check.due("pusher()", x.pusher(), 0);
    }

    private static void all512CallsAreAnswered() {
        check.sentence("An object is used for at most 512 calls after it has been made");
        BoxPusher x = new BoxPusher();
        check.due("call 1, place(4)", x.place(4), 0);
        check.due("call 2, box(5, true)", x.box(5, true), 1);
        for (int i = 0; i < 509; i++) {
            int due = i % 10 == 0 || i % 10 == 5 ? 1 : 0;
            check.due("call " + (i + 3) + ", move", x.move(TO_AND_FRO[i % 10]), due);
        }
        check.due("call 512, pushes()", x.pushes(), 102);
    }
}
