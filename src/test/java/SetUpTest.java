/** Promises 1 to 4, 13 and 14: a new object, cell, box, place, hasBox and pusher. */
public final class SetUpTest {
    private static final Check check = new Check();
    private static final int[] NO_CELLS = {-1, 16, 17, -16, Integer.MIN_VALUE, Integer.MAX_VALUE};

    public static void main(String[] args) {
        aNewObject();
        cellAnswersTheOldKind();
        cellRefuses();
        boxIsPutAndTakenOff();
        boxRefuses();
        placeAnswersTheOldCell();
        placeRefuses();
        refusedCallsForgetNothing();
        successForgetsTheMoves();
        hasBoxFollowsTheBoxes();
        check.end();
    }

    private static void aNewObject() {
        BoxPusher x = new BoxPusher();
        check.due("new: pusher()", x.pusher(), 0);
        check.due("new: pushes()", x.pushes(), 0);
        check.due("new: undo()", x.undo(), BoxPusher.NONE);
        check.due("new: region()", x.region(), 16);
        check.due("new: done()", x.done(), true);
        for (int cell = 0; cell < 16; cell++) {
            check.due("new: hasBox(" + cell + ")", x.hasBox(cell), false);
            check.due("new: cell(" + cell + ", FLOOR)", x.cell(cell, BoxPusher.FLOOR), BoxPusher.FLOOR);
        }
    }

    private static void cellAnswersTheOldKind() {
        BoxPusher x = new BoxPusher();
        int[] kinds = {BoxPusher.WALL, BoxPusher.GOAL, BoxPusher.FLOOR, BoxPusher.GOAL, BoxPusher.WALL,
            BoxPusher.WALL, BoxPusher.FLOOR, BoxPusher.FLOOR, BoxPusher.GOAL, BoxPusher.GOAL};
        for (int cell = 1; cell < 16; cell++) {
            int old = BoxPusher.FLOOR;
            for (int kind : kinds) {
                check.due("cell(" + cell + ", " + kind + ")", x.cell(cell, kind), old);
                old = kind;
            }
        }
        check.due("cell(0, GOAL) under the pusher", x.cell(0, BoxPusher.GOAL), BoxPusher.FLOOR);
        check.due("cell(0, FLOOR) under the pusher", x.cell(0, BoxPusher.FLOOR), BoxPusher.GOAL);
        x.cell(6, BoxPusher.FLOOR);
        x.box(6, true);
        check.due("cell(6, GOAL) under a box", x.cell(6, BoxPusher.GOAL), BoxPusher.FLOOR);
        check.due("cell(6, FLOOR) under a box", x.cell(6, BoxPusher.FLOOR), BoxPusher.GOAL);
        check.due("the box is still there", x.hasBox(6), true);
    }

    private static void cellRefuses() {
        BoxPusher x = new BoxPusher();
        for (int cell : NO_CELLS) {
            check.due("cell(" + cell + ", WALL)", x.cell(cell, BoxPusher.WALL), BoxPusher.BAD_CELL);
            check.due("cell(" + cell + ", 3)", x.cell(cell, 3), BoxPusher.BAD_CELL);
        }
        x.box(5, true);
        x.box(6, true);
        int[] noKinds = {-1, 3, 4, Integer.MIN_VALUE, Integer.MAX_VALUE};
        for (int kind : noKinds) {
            check.due("cell(9, " + kind + ")", x.cell(9, kind), BoxPusher.BAD_KIND);
            check.due("cell(5, " + kind + ")", x.cell(5, kind), BoxPusher.BAD_KIND);
            check.due("cell(0, " + kind + ")", x.cell(0, kind), BoxPusher.BAD_KIND);
        }
        check.due("cell(0, WALL) with the pusher", x.cell(0, BoxPusher.WALL), BoxPusher.TAKEN);
        check.due("cell(5, WALL) with the first box", x.cell(5, BoxPusher.WALL), BoxPusher.TAKEN);
        check.due("cell(6, WALL) with the second box", x.cell(6, BoxPusher.WALL), BoxPusher.TAKEN);
        check.due("cell(0, FLOOR) was not made a wall", x.cell(0, BoxPusher.FLOOR), BoxPusher.FLOOR);
        check.due("cell(5, FLOOR) was not made a wall", x.cell(5, BoxPusher.FLOOR), BoxPusher.FLOOR);
        check.due("cell(9, FLOOR) was not changed", x.cell(9, BoxPusher.FLOOR), BoxPusher.FLOOR);
        x.box(5, false);
        x.place(15);
        check.due("cell(5, WALL) when the box is gone", x.cell(5, BoxPusher.WALL), BoxPusher.FLOOR);
        check.due("cell(0, WALL) when the pusher is gone", x.cell(0, BoxPusher.WALL), BoxPusher.FLOOR);
    }

    private static void boxIsPutAndTakenOff() {
        BoxPusher x = new BoxPusher();
        x.cell(10, BoxPusher.GOAL);
        check.due("box(15, true)", x.box(15, true), 1);
        check.due("box(10, true) on a goal", x.box(10, true), 2);
        check.due("box(15, false), the first", x.box(15, false), 1);
        check.due("hasBox(15)", x.hasBox(15), false);
        check.due("hasBox(10)", x.hasBox(10), true);
        check.due("box(1, true)", x.box(1, true), 2);
        check.due("box(10, false), the older", x.box(10, false), 1);
        check.due("box(1, false)", x.box(1, false), 0);
        for (int cell = 0; cell < 16; cell++) {
            check.due("no box left: hasBox(" + cell + ")", x.hasBox(cell), false);
        }
        check.due("box(3, true)", x.box(3, true), 1);
        check.due("box(4, true)", x.box(4, true), 2);
        check.due("box(4, false), the second", x.box(4, false), 1);
        check.due("box(3, false)", x.box(3, false), 0);
    }

    private static void boxRefuses() {
        BoxPusher x = new BoxPusher();
        x.cell(7, BoxPusher.WALL);
        for (int cell : NO_CELLS) {
            check.due("box(" + cell + ", true)", x.box(cell, true), BoxPusher.BAD_CELL);
            check.due("box(" + cell + ", false)", x.box(cell, false), BoxPusher.BAD_CELL);
        }
        check.due("box(7, true) on a wall", x.box(7, true), BoxPusher.TAKEN);
        check.due("box(0, true) on the pusher", x.box(0, true), BoxPusher.TAKEN);
        check.due("box(7, false) on a wall", x.box(7, false), BoxPusher.NONE);
        check.due("box(0, false) on the pusher", x.box(0, false), BoxPusher.NONE);
        check.due("box(5, false) on floor", x.box(5, false), BoxPusher.NONE);
        check.due("box(5, true)", x.box(5, true), 1);
        check.due("box(5, true) again", x.box(5, true), BoxPusher.TAKEN);
        check.due("box(6, true)", x.box(6, true), 2);
        check.due("box(9, true), a third", x.box(9, true), BoxPusher.FULL);
        check.due("hasBox(9) after FULL", x.hasBox(9), false);
        check.due("two boxes, box(7, true) on a wall", x.box(7, true), BoxPusher.TAKEN);
        check.due("two boxes, box(0, true) on the pusher", x.box(0, true), BoxPusher.TAKEN);
        check.due("two boxes, box(5, true) on a box", x.box(5, true), BoxPusher.TAKEN);
        check.due("two boxes, box(6, true) on a box", x.box(6, true), BoxPusher.TAKEN);
        check.due("two boxes, box(9, false)", x.box(9, false), BoxPusher.NONE);
        for (int cell : NO_CELLS) {
            check.due("two boxes, box(" + cell + ", true)", x.box(cell, true), BoxPusher.BAD_CELL);
        }
    }

    private static void placeAnswersTheOldCell() {
        BoxPusher x = new BoxPusher();
        x.cell(3, BoxPusher.GOAL);
        x.box(5, true);
        int old = 0;
        int[] cells = {15, 3, 3, 12, 0, 1, 14};
        for (int cell : cells) {
            check.due("place(" + cell + ")", x.place(cell), old);
            check.due("pusher()", x.pusher(), cell);
            old = cell;
        }
        check.due("place keeps the box", x.hasBox(5), true);
        check.due("place moves no box", x.hasBox(14), false);
    }

    private static void placeRefuses() {
        BoxPusher x = new BoxPusher();
        x.cell(7, BoxPusher.WALL);
        x.box(5, true);
        x.box(6, true);
        for (int cell : NO_CELLS) {
            check.due("place(" + cell + ")", x.place(cell), BoxPusher.BAD_CELL);
        }
        check.due("place(7) on a wall", x.place(7), BoxPusher.TAKEN);
        check.due("place(5) on the first box", x.place(5), BoxPusher.TAKEN);
        check.due("place(6) on the second box", x.place(6), BoxPusher.TAKEN);
        check.due("pusher() after refusals", x.pusher(), 0);
    }

    private static void refusedCallsForgetNothing() {
        BoxPusher x = new BoxPusher();
        x.cell(15, BoxPusher.WALL);
        x.box(1, true);
        x.box(10, true);
        check.due("move(3)", x.move(3), 1);
        x.cell(16, BoxPusher.GOAL);
        x.cell(3, 3);
        x.cell(1, BoxPusher.WALL);
        x.cell(2, BoxPusher.WALL);
        x.box(-1, true);
        x.box(15, true);
        x.box(8, true);
        x.box(8, false);
        x.place(-1);
        x.place(15);
        x.place(10);
        x.move(4);
        x.move(0);
        check.due("refused calls keep pushes()", x.pushes(), 1);
        check.due("refused calls keep pusher()", x.pusher(), 1);
        check.due("refused calls keep the move", x.undo(), 3);
        check.due("and it is taken back whole", x.hasBox(1), true);
        check.due("pusher()", x.pusher(), 0);
        check.due("pushes()", x.pushes(), 0);
    }

    private static void successForgetsTheMoves() {
        // Also calls that leave all as it was are calls with success.
        for (int way = 0; way < 4; way++) {
            BoxPusher x = new BoxPusher();
            x.box(1, true);
            x.move(3);
            check.due("pushes() before way " + way, x.pushes(), 1);
            if (way == 0) {
                check.due("cell(9, FLOOR)", x.cell(9, BoxPusher.FLOOR), BoxPusher.FLOOR);
            } else if (way == 1) {
                check.due("box(9, true)", x.box(9, true), 2);
            } else if (way == 2) {
                check.due("box(2, false)", x.box(2, false), 0);
            } else {
                check.due("place(1)", x.place(1), 1);
            }
            check.due("pushes() after way " + way, x.pushes(), 0);
            check.due("undo() after way " + way, x.undo(), BoxPusher.NONE);
            check.due("pusher() after way " + way, x.pusher(), 1);
        }
    }

    private static void hasBoxFollowsTheBoxes() {
        BoxPusher x = new BoxPusher();
        for (int cell : NO_CELLS) {
            check.due("no boxes: hasBox(" + cell + ")", x.hasBox(cell), false);
        }
        x.box(1, true);
        for (int cell : NO_CELLS) {
            check.due("one box: hasBox(" + cell + ")", x.hasBox(cell), false);
        }
        x.move(3);
        check.due("pushed: hasBox(1)", x.hasBox(1), false);
        check.due("pushed: hasBox(2)", x.hasBox(2), true);
        x.undo();
        check.due("taken back: hasBox(1)", x.hasBox(1), true);
        check.due("taken back: hasBox(2)", x.hasBox(2), false);
    }
}
