/** Promises 1 to 4, 13 and 14: ordinary use of a new object, cell, box, place, hasBox and pusher. */
public final class SetUpTest {
    private static final Check check = new Check();

    public static void main(String[] args) {
        aNewObject();
        cellAnswersTheOldKind();
        boxIsPutAndTakenOff();
        placeAnswersTheOldCell();
        hasBoxFollowsTheBoxes();
        check.end();
    }

    private static void aNewObject() {
        BoxPusher x = new BoxPusher();
        check.due("new: pusher()", x.pusher(), 0);
        check.due("new: pushes()", x.pushes(), 0);
        check.due("new: undo()", x.undo(), BoxPusher.NONE);
        check.due("new: region()", x.region(), 16);
        check.due("new: done()", x.done(), true);
        for (int cell = 0; cell < 16; cell++) {
            check.due("new: hasBox(" + cell + ")", x.hasBox(cell), false);
            check.due("new: cell(" + cell + ", FLOOR)", x.cell(cell, BoxPusher.FLOOR), BoxPusher.FLOOR);
        }
    }

    private static void cellAnswersTheOldKind() {
        BoxPusher x = new BoxPusher();
        int[] kinds = {BoxPusher.WALL, BoxPusher.GOAL, BoxPusher.FLOOR, BoxPusher.GOAL, BoxPusher.WALL,
            BoxPusher.WALL, BoxPusher.FLOOR, BoxPusher.FLOOR, BoxPusher.GOAL, BoxPusher.GOAL};
        for (int cell = 1; cell < 16; cell++) {
            int old = BoxPusher.FLOOR;
            for (int kind : kinds) {
                check.due("cell(" + cell + ", " + kind + ")", x.cell(cell, kind), old);
                old = kind;
            }
        }
        check.due("cell(0, GOAL) under the pusher", x.cell(0, BoxPusher.GOAL), BoxPusher.FLOOR);
        check.due("cell(0, FLOOR) under the pusher", x.cell(0, BoxPusher.FLOOR), BoxPusher.GOAL);
        x.cell(6, BoxPusher.FLOOR);
        x.box(6, true);
        check.due("cell(6, GOAL) under a box", x.cell(6, BoxPusher.GOAL), BoxPusher.FLOOR);
        check.due("cell(6, FLOOR) under a box", x.cell(6, BoxPusher.FLOOR), BoxPusher.GOAL);
        check.due("the box is still there", x.hasBox(6), true);
    }

    private static void boxIsPutAndTakenOff() {
        BoxPusher x = new BoxPusher();
        x.cell(10, BoxPusher.GOAL);
        check.due("box(15, true)", x.box(15, true), 1);
        check.due("box(10, true) on a goal", x.box(10, true), 2);
        check.due("box(15, false), the first", x.box(15, false), 1);
        check.due("hasBox(15)", x.hasBox(15), false);
        check.due("hasBox(10)", x.hasBox(10), true);
        check.due("box(1, true)", x.box(1, true), 2);
        check.due("box(10, false), the older", x.box(10, false), 1);
        check.due("box(1, false)", x.box(1, false), 0);
        for (int cell = 0; cell < 16; cell++) {
            check.due("no box left: hasBox(" + cell + ")", x.hasBox(cell), false);
        }
        check.due("box(3, true)", x.box(3, true), 1);
        check.due("box(4, true)", x.box(4, true), 2);
        check.due("box(4, false), the second", x.box(4, false), 1);
        check.due("box(3, false)", x.box(3, false), 0);
    }

    private static void placeAnswersTheOldCell() {
        BoxPusher x = new BoxPusher();
        x.cell(3, BoxPusher.GOAL);
        x.box(5, true);
        int old = 0;
        int[] cells = {15, 3, 3, 12, 0, 1, 14};
        for (int cell : cells) {
            check.due("place(" + cell + ")", x.place(cell), old);
            check.due("pusher()", x.pusher(), cell);
            old = cell;
        }
        check.due("place keeps the box", x.hasBox(5), true);
        check.due("place moves no box", x.hasBox(14), false);
    }

    private static void hasBoxFollowsTheBoxes() {
        BoxPusher x = new BoxPusher();
        x.box(1, true);
        x.move(3);
        check.due("pushed: hasBox(1)", x.hasBox(1), false);
        check.due("pushed: hasBox(2)", x.hasBox(2), true);
        x.undo();
        check.due("taken back: hasBox(1)", x.hasBox(1), true);
        check.due("taken back: hasBox(2)", x.hasBox(2), false);
    }
}
