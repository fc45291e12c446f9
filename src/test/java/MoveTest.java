/** Promises 5, 6, 15 and 16: move, undo, pushes, and how many moves can be taken back. */
public final class MoveTest {
    private static final Check check = new Check();

    public static void main(String[] args) {
        walksFromEveryCell();
        wrongDirections();
        wallsBlock();
        pushesEveryWay();
        pushesThatAreBlocked();
        pushesTheRightBox();
        pushesOntoGoals();
        undoTakesBack();
        undoOfPushes();
        refusedMovesAreNotKept();
        twentyAtMost();
        theRowAfterUndo();
        pushesBeyondTheRow();
        check.end();
    }

    private static void walksFromEveryCell() {
        for (int cell = 0; cell < 16; cell++) {
            int row = cell / 4;
            int column = cell % 4;
            walk(cell, 0, row > 0, cell - 4);
            walk(cell, 1, row < 3, cell + 4);
            walk(cell, 2, column > 0, cell - 1);
            walk(cell, 3, column < 3, cell + 1);
        }
    }

    private static void walk(int cell, int direction, boolean possible, int to) {
        BoxPusher x = new BoxPusher();
        x.place(cell);
        String call = "from " + cell + " move(" + direction + ")";
        check.due(call, x.move(direction), possible ? 0 : BoxPusher.BLOCKED);
        check.due(call + ", pusher()", x.pusher(), possible ? to : cell);
        check.due(call + ", undo()", x.undo(), possible ? direction : BoxPusher.NONE);
        check.due(call + ", undo(), pusher()", x.pusher(), cell);
    }

    private static void wrongDirections() {
        BoxPusher x = new BoxPusher();
        x.place(5);
        int[] wrong = {-1, 4, 5, Integer.MIN_VALUE, Integer.MAX_VALUE};
        for (int direction : wrong) {
            check.due("move(" + direction + ")", x.move(direction), BoxPusher.BAD_KIND);
        }
        check.due("pusher()", x.pusher(), 5);
        check.due("undo()", x.undo(), BoxPusher.NONE);
    }

    private static void wallsBlock() {
        BoxPusher x = new BoxPusher();
        x.place(5);
        int[] around = {1, 9, 4, 6};
        for (int direction = 0; direction < 4; direction++) {
            x.cell(around[direction], BoxPusher.WALL);
            check.due("wall, move(" + direction + ")", x.move(direction), BoxPusher.BLOCKED);
            x.cell(around[direction], BoxPusher.GOAL);
            check.due("goal, move(" + direction + ")", x.move(direction), 0);
            x.undo();
        }
    }

    private static void pushesEveryWay() {
        int[] from = {13, 1, 7, 4};
        int[] step = {-4, 4, -1, 1};
        for (int direction = 0; direction < 4; direction++) {
            BoxPusher x = new BoxPusher();
            int start = from[direction];
            int by = step[direction];
            x.place(start);
            x.box(start + by, true);
            for (int i = 1; i <= 2; i++) {
                check.due("push " + i + ", move(" + direction + ")", x.move(direction), 1);
                check.due("pusher()", x.pusher(), start + i * by);
                check.due("hasBox() ahead", x.hasBox(start + (i + 1) * by), true);
                check.due("hasBox() here", x.hasBox(start + i * by), false);
                check.due("pushes()", x.pushes(), i);
            }
            check.due("push at the edge, move(" + direction + ")", x.move(direction), BoxPusher.BLOCKED);
            check.due("pusher()", x.pusher(), start + 2 * by);
            check.due("hasBox() at the edge", x.hasBox(start + 3 * by), true);
            check.due("pushes()", x.pushes(), 2);
        }
    }

    private static void pushesThatAreBlocked() {
        BoxPusher x = new BoxPusher();
        x.place(4);
        x.box(5, true);
        x.cell(6, BoxPusher.WALL);
        check.due("against a wall, move(3)", x.move(3), BoxPusher.BLOCKED);
        x.cell(6, BoxPusher.FLOOR);
        x.box(6, true);
        check.due("first against second, move(3)", x.move(3), BoxPusher.BLOCKED);
        x.place(7);
        check.due("second against first, move(2)", x.move(2), BoxPusher.BLOCKED);
        check.due("pusher()", x.pusher(), 7);
        check.due("hasBox(5)", x.hasBox(5), true);
        check.due("hasBox(6)", x.hasBox(6), true);
        check.due("pushes()", x.pushes(), 0);
        // The end of a row is no way to the beginning of the next one.
        x.box(6, false);
        x.box(5, false);
        x.place(6);
        x.box(7, true);
        check.due("over the end of a row, move(3)", x.move(3), BoxPusher.BLOCKED);
        x.place(9);
        x.box(8, true);
        check.due("over the beginning of a row, move(2)", x.move(2), BoxPusher.BLOCKED);
    }

    private static void pushesTheRightBox() {
        BoxPusher x = new BoxPusher();
        x.box(1, true);
        x.box(4, true);
        check.due("the second box, move(1)", x.move(1), 1);
        check.due("hasBox(1)", x.hasBox(1), true);
        check.due("hasBox(4)", x.hasBox(4), false);
        check.due("hasBox(8)", x.hasBox(8), true);
        check.due("back, move(0)", x.move(0), 0);
        check.due("the first box, move(3)", x.move(3), 1);
        check.due("hasBox(1)", x.hasBox(1), false);
        check.due("hasBox(2)", x.hasBox(2), true);
        check.due("hasBox(8)", x.hasBox(8), true);
        check.due("pushes()", x.pushes(), 2);
    }

    private static void pushesOntoGoals() {
        BoxPusher x = new BoxPusher();
        x.cell(2, BoxPusher.GOAL);
        x.box(1, true);
        check.due("onto a goal, move(3)", x.move(3), 1);
        check.due("done()", x.done(), true);
        check.due("off a goal, move(3)", x.move(3), 1);
        check.due("done()", x.done(), false);
        check.due("undo()", x.undo(), 3);
        check.due("done()", x.done(), true);
    }

    private static void undoTakesBack() {
        BoxPusher x = new BoxPusher();
        int[] directions = {3, 1, 3, 0, 2, 1, 1, 3};
        int[] cells = new int[directions.length];
        for (int i = 0; i < directions.length; i++) {
            cells[i] = x.pusher();
            check.due("move(" + directions[i] + ")", x.move(directions[i]), 0);
        }
        for (int i = directions.length - 1; i >= 0; i--) {
            check.due("undo()", x.undo(), directions[i]);
            check.due("pusher()", x.pusher(), cells[i]);
        }
        check.due("undo() of none", x.undo(), BoxPusher.NONE);
        check.due("undo() of none again", x.undo(), BoxPusher.NONE);
        check.due("pusher()", x.pusher(), 0);
    }

    private static void undoOfPushes() {
        BoxPusher x = new BoxPusher();
        x.box(1, true);
        x.box(6, true);
        check.due("move(3)", x.move(3), 1);
        check.due("move(1)", x.move(1), 0);
        check.due("move(3)", x.move(3), 1);
        check.due("hasBox(7)", x.hasBox(7), true);
        check.due("move(2)", x.move(2), 0);
        check.due("pushes()", x.pushes(), 2);
        check.due("undo() of a walk", x.undo(), 2);
        check.due("a walk pulls no box", x.hasBox(7), true);
        check.due("pushes()", x.pushes(), 2);
        check.due("undo() of a push", x.undo(), 3);
        check.due("hasBox(6)", x.hasBox(6), true);
        check.due("hasBox(7)", x.hasBox(7), false);
        check.due("pushes()", x.pushes(), 1);
        check.due("undo() of a walk", x.undo(), 1);
        check.due("pushes()", x.pushes(), 1);
        check.due("undo() of a push", x.undo(), 3);
        check.due("hasBox(1)", x.hasBox(1), true);
        check.due("hasBox(2)", x.hasBox(2), false);
        check.due("pushes()", x.pushes(), 0);
        check.due("undo() of none", x.undo(), BoxPusher.NONE);
        // Walking away from a box that stands next to the pusher: no push to take back.
        check.due("move(1)", x.move(1), 0);
        check.due("move(0)", x.move(0), 0);
        check.due("undo()", x.undo(), 0);
        check.due("hasBox(1)", x.hasBox(1), true);
        check.due("pusher()", x.pusher(), 4);
    }

    private static void refusedMovesAreNotKept() {
        BoxPusher x = new BoxPusher();
        check.due("move(3)", x.move(3), 0);
        for (int i = 0; i < 25; i++) {
            check.due("move(0)", x.move(0), BoxPusher.BLOCKED);
            check.due("move(7)", x.move(7), BoxPusher.BAD_KIND);
        }
        check.due("undo()", x.undo(), 3);
        check.due("undo()", x.undo(), BoxPusher.NONE);
    }

    /** Walks round and round the four cells 0, 1, 5, 4. */
    private static int roundDirection(int i) {
        int[] round = {3, 1, 2, 0};
        return round[i % 4];
    }

    private static void twentyAtMost() {
        int[] cells = {0, 1, 5, 4};
        for (int moves = 0; moves <= 64; moves++) {
            BoxPusher x = new BoxPusher();
            for (int i = 0; i < moves; i++) {
                check.due("round, move", x.move(roundDirection(i)), 0);
            }
            int back = Math.min(moves, 20);
            for (int i = 1; i <= back; i++) {
                check.due("of " + moves + ", undo() " + i, x.undo(), roundDirection(moves - i));
                check.due("of " + moves + ", pusher() " + i, x.pusher(), cells[(moves - i) % 4]);
            }
            check.due("of " + moves + ", undo() of none", x.undo(), BoxPusher.NONE);
            check.due("of " + moves + ", pusher()", x.pusher(), cells[(moves - back) % 4]);
        }
    }

    private static void theRowAfterUndo() {
        BoxPusher x = new BoxPusher();
        for (int i = 0; i < 25; i++) {
            x.move(roundDirection(i));
        }
        for (int i = 0; i < 3; i++) {
            check.due("25 moves, undo()", x.undo(), roundDirection(24 - i));
        }
        for (int i = 22; i < 24; i++) {
            check.due("three undo, move", x.move(roundDirection(i)), 0);
        }
        for (int i = 0; i < 19; i++) {
            check.due("25 moves, three undo and two moves, undo() " + i, x.undo(), roundDirection(23 - i));
        }
        check.due("19 are taken back, undo()", x.undo(), BoxPusher.NONE);
        check.due("pusher()", x.pusher(), 1);
    }

    private static void pushesBeyondTheRow() {
        BoxPusher x = new BoxPusher();
        x.box(1, true);
        check.due("move(3)", x.move(3), 1);
        check.due("move(3)", x.move(3), 1);
        for (int i = 0; i < 10; i++) {
            check.due("move(2)", x.move(2), 0);
            check.due("move(3)", x.move(3), 0);
        }
        check.due("pushes() that can't be taken back count", x.pushes(), 2);
        for (int i = 0; i < 10; i++) {
            check.due("undo()", x.undo(), 3);
            check.due("undo()", x.undo(), 2);
        }
        check.due("undo() of none", x.undo(), BoxPusher.NONE);
        check.due("pushes()", x.pushes(), 2);
        check.due("hasBox(3)", x.hasBox(3), true);
        // A push as the oldest of the twenty can be taken back.
        BoxPusher y = new BoxPusher();
        y.box(1, true);
        y.move(3);
        y.move(3);
        for (int i = 0; i < 19; i++) {
            y.move(i % 2 == 0 ? 2 : 3);
        }
        check.due("pushes()", y.pushes(), 2);
        for (int i = 0; i < 20; i++) {
            y.undo();
        }
        check.due("undo() of none", y.undo(), BoxPusher.NONE);
        check.due("pushes()", y.pushes(), 1);
        check.due("hasBox(2)", y.hasBox(2), true);
        check.due("pusher()", y.pusher(), 1);
    }
}
