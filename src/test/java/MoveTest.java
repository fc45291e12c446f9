/** Promises 5, 6 and 15: ordinary use of move, undo and pushes. */
public final class MoveTest {
    private static final Check check = new Check();

    public static void main(String[] args) {
        walksFromEveryCell();
        pushesEveryWay();
        pushesTheRightBox();
        pushesOntoGoals();
        undoTakesBack();
        undoOfPushes();
        check.end();
    }

    private static void walksFromEveryCell() {
        for (int cell = 0; cell < 16; cell++) {
            int row = cell / 4;
            int column = cell % 4;
            walk(cell, 0, row > 0, cell - 4);
            walk(cell, 1, row < 3, cell + 4);
            walk(cell, 2, column > 0, cell - 1);
            walk(cell, 3, column < 3, cell + 1);
        }
    }

    private static void walk(int cell, int direction, boolean possible, int to) {
        BoxPusher x = new BoxPusher();
        x.place(cell);
        String call = "from " + cell + " move(" + direction + ")";
        check.due(call, x.move(direction), possible ? 0 : BoxPusher.BLOCKED);
        check.due(call + ", pusher()", x.pusher(), possible ? to : cell);
        check.due(call + ", undo()", x.undo(), possible ? direction : BoxPusher.NONE);
        check.due(call + ", undo(), pusher()", x.pusher(), cell);
    }

    private static void pushesEveryWay() {
        int[] from = {13, 1, 7, 4};
        int[] step = {-4, 4, -1, 1};
        for (int direction = 0; direction < 4; direction++) {
            BoxPusher x = new BoxPusher();
            int start = from[direction];
            int by = step[direction];
            x.place(start);
            x.box(start + by, true);
            for (int i = 1; i <= 2; i++) {
                check.due("push " + i + ", move(" + direction + ")", x.move(direction), 1);
                check.due("pusher()", x.pusher(), start + i * by);
                check.due("hasBox() ahead", x.hasBox(start + (i + 1) * by), true);
                check.due("hasBox() here", x.hasBox(start + i * by), false);
                check.due("pushes()", x.pushes(), i);
            }
            check.due("push at the edge, move(" + direction + ")", x.move(direction), BoxPusher.BLOCKED);
            check.due("pusher()", x.pusher(), start + 2 * by);
            check.due("hasBox() at the edge", x.hasBox(start + 3 * by), true);
            check.due("pushes()", x.pushes(), 2);
        }
    }

    private static void pushesTheRightBox() {
        BoxPusher x = new BoxPusher();
        x.box(1, true);
        x.box(4, true);
        check.due("the second box, move(1)", x.move(1), 1);
        check.due("hasBox(1)", x.hasBox(1), true);
        check.due("hasBox(4)", x.hasBox(4), false);
        check.due("hasBox(8)", x.hasBox(8), true);
        check.due("back, move(0)", x.move(0), 0);
        check.due("the first box, move(3)", x.move(3), 1);
        check.due("hasBox(1)", x.hasBox(1), false);
        check.due("hasBox(2)", x.hasBox(2), true);
        check.due("hasBox(8)", x.hasBox(8), true);
        check.due("pushes()", x.pushes(), 2);
    }

    private static void pushesOntoGoals() {
        BoxPusher x = new BoxPusher();
        x.cell(2, BoxPusher.GOAL);
        x.box(1, true);
        check.due("onto a goal, move(3)", x.move(3), 1);
        check.due("done()", x.done(), true);
        check.due("off a goal, move(3)", x.move(3), 1);
        check.due("done()", x.done(), false);
        check.due("undo()", x.undo(), 3);
        check.due("done()", x.done(), true);
    }

    private static void undoTakesBack() {
        BoxPusher x = new BoxPusher();
        int[] directions = {3, 1, 3, 0, 2, 1, 1, 3};
        int[] cells = new int[directions.length];
        for (int i = 0; i < directions.length; i++) {
            cells[i] = x.pusher();
            check.due("move(" + directions[i] + ")", x.move(directions[i]), 0);
        }
        for (int i = directions.length - 1; i >= 0; i--) {
            check.due("undo()", x.undo(), directions[i]);
            check.due("pusher()", x.pusher(), cells[i]);
        }
        check.due("undo() of none", x.undo(), BoxPusher.NONE);
        check.due("undo() of none again", x.undo(), BoxPusher.NONE);
        check.due("pusher()", x.pusher(), 0);
    }

    private static void undoOfPushes() {
        BoxPusher x = new BoxPusher();
        x.box(1, true);
        x.box(6, true);
        check.due("move(3)", x.move(3), 1);
        check.due("move(1)", x.move(1), 0);
        check.due("move(3)", x.move(3), 1);
        check.due("hasBox(7)", x.hasBox(7), true);
        check.due("move(2)", x.move(2), 0);
        check.due("pushes()", x.pushes(), 2);
        check.due("undo() of a walk", x.undo(), 2);
        check.due("a walk pulls no box", x.hasBox(7), true);
        check.due("pushes()", x.pushes(), 2);
        check.due("undo() of a push", x.undo(), 3);
        check.due("hasBox(6)", x.hasBox(6), true);
        check.due("hasBox(7)", x.hasBox(7), false);
        check.due("pushes()", x.pushes(), 1);
        check.due("undo() of a walk", x.undo(), 1);
        check.due("pushes()", x.pushes(), 1);
        check.due("undo() of a push", x.undo(), 3);
        check.due("hasBox(1)", x.hasBox(1), true);
        check.due("hasBox(2)", x.hasBox(2), false);
        check.due("pushes()", x.pushes(), 0);
        check.due("undo() of none", x.undo(), BoxPusher.NONE);
        // Walking away from a box that stands next to the pusher: no push to take back.
        check.due("move(1)", x.move(1), 0);
        check.due("move(0)", x.move(0), 0);
        check.due("undo()", x.undo(), 0);
        check.due("hasBox(1)", x.hasBox(1), true);
        check.due("pusher()", x.pusher(), 4);
    }
}
