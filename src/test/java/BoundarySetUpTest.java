/** The boundary cases of promises 1 to 4, 13 and 14, a method for each sentence. */
public final class BoundarySetUpTest {
    private static final Check check = new Check();

    public static void main(String[] args) {
        newAllCellsAreFloor();
        newNoBoxes();
        newThePusherOnCell0();
        newObjectsShareNothing();
        cellBadCell();
        cellBadKind();
        cellTaken();
        cellTakenForWallsAlone();
        cellAnswersTheOldKind();
        boxBadCell();
        boxTaken();
        boxFull();
        boxNone();
        boxAnswersHowMany();
        placeBadCell();
        placeTaken();
        placeAnswersWhereItWas();
        hasBoxOfNoCell();
        hasBoxOfTheFirstAndTheLastCell();
        pusherOnTheFirstAndTheLastCell();
        check.end();
    }

    private static void newAllCellsAreFloor() {
        check.sentence("Promise 1: All cells are floor");
        for (int cell = 0; cell < 16; cell++) {
            check.due("cell(" + cell + ", GOAL)", new BoxPusher().cell(cell, BoxPusher.GOAL), BoxPusher.FLOOR);
        }
    }

    private static void newNoBoxes() {
        check.sentence("Promise 1: no boxes");
        BoxPusher x = new BoxPusher();
        for (int cell = 0; cell < 16; cell++) {
            check.due("hasBox(" + cell + ")", x.hasBox(cell), false);
            check.due("box(" + cell + ", false)", x.box(cell, false), BoxPusher.NONE);
        }
        check.due("box(15, true)", x.box(15, true), 1);
    }

    private static void newThePusherOnCell0() {
        check.sentence("Promise 1: the pusher on cell 0");
        check.due("pusher()", new BoxPusher().pusher(), 0);
        check.due("place(15)", new BoxPusher().place(15), 0);
        check.due("nothing to take back: undo()", new BoxPusher().undo(), BoxPusher.NONE);
        check.due("pushes()", new BoxPusher().pushes(), 0);
    }

    private static void newObjectsShareNothing() {
        check.sentence("Promise 1: A new object");
        String before = Store.whole(new BoxPusher());
        BoxPusher used = Store.drawn("#.--", "--@$", "-*--", "----");
        Store.moveAll(used, 0, 1, 1);
        used.leastMoves();
        BoxPusher x = new BoxPusher();
        used.move(2);
        check.due("all that is known, beside one in use", Store.whole(x), before);
        check.due("all that is known of the one in use", Store.stand(used), "[7, 8] 9 1");
    }

    private static void cellBadCell() {
        check.sentence("Promise 2: BAD_CELL");
        for (int cell : Store.NO_CELLS) {
            for (int kind = -1; kind <= 3; kind++) {
                check.due("cell(" + cell + ", " + kind + ")", new BoxPusher().cell(cell, kind), BoxPusher.BAD_CELL);
            }
        }
    }

    private static void cellBadKind() {
        check.sentence("Promise 2: kind not in 0 to 2: BAD_KIND");
        // 257 and 65538 would be kinds if they were cut to a byte or a short.
        int[] noKinds = {-1, 3, 4, 257, 65538, Integer.MIN_VALUE, Integer.MAX_VALUE};
        for (int kind : noKinds) {
            BoxPusher x = Store.drawn("@$--", "----", "----", "---.");
            for (int cell = 0; cell < 16; cell++) {
                check.due("cell(" + cell + ", " + kind + ")", x.cell(cell, kind), BoxPusher.BAD_KIND);
            }
            check.due("still floor: cell(14, 0)", x.cell(14, 0), BoxPusher.FLOOR);
            check.due("still a goal: cell(15, 0)", x.cell(15, 0), BoxPusher.GOAL);
        }
        for (int kind = 0; kind <= 2; kind++) {
            check.due("cell(9, " + kind + ")", new BoxPusher().cell(9, kind), BoxPusher.FLOOR);
        }
    }

    private static void cellTaken() {
        check.sentence("Promise 2: it is to be a wall and has a box or the pusher: TAKEN");
        BoxPusher x = Store.drawn("@$--", "$---", "----", "----");
        check.due("the pusher: cell(0, WALL)", x.cell(0, BoxPusher.WALL), BoxPusher.TAKEN);
        check.due("the first box: cell(1, WALL)", x.cell(1, BoxPusher.WALL), BoxPusher.TAKEN);
        check.due("the second box: cell(4, WALL)", x.cell(4, BoxPusher.WALL), BoxPusher.TAKEN);
        check.due("move(3)", x.move(3), 1);
        check.due("the pusher moved there: cell(1, WALL)", x.cell(1, BoxPusher.WALL), BoxPusher.TAKEN);
        check.due("the box pushed there: cell(2, WALL)", x.cell(2, BoxPusher.WALL), BoxPusher.TAKEN);
        check.due("undo()", x.undo(), 3);
        check.due("the pusher back there: cell(0, WALL)", x.cell(0, BoxPusher.WALL), BoxPusher.TAKEN);
        check.due("the box back there: cell(1, WALL)", x.cell(1, BoxPusher.WALL), BoxPusher.TAKEN);
        check.due("the box gone: cell(2, WALL)", x.cell(2, BoxPusher.WALL), BoxPusher.FLOOR);
        x.box(4, false);
        check.due("the box taken off: cell(4, WALL)", x.cell(4, BoxPusher.WALL), BoxPusher.FLOOR);
        x.place(15);
        check.due("the pusher gone: cell(0, WALL)", x.cell(0, BoxPusher.WALL), BoxPusher.FLOOR);
        check.due("on goals too: cell(14, WALL)", Store.drawn("----", "----", "----", "--*+").cell(14, BoxPusher.WALL),
            BoxPusher.TAKEN);
        check.due("on goals too: cell(15, WALL)", Store.drawn("----", "----", "----", "--*+").cell(15, BoxPusher.WALL),
            BoxPusher.TAKEN);
    }

    private static void cellTakenForWallsAlone() {
        check.sentence("Promise 2: it is to be a wall");
        BoxPusher x = Store.drawn("@$--", "----", "----", "----");
        for (int cell = 0; cell <= 1; cell++) {
            check.due("cell(" + cell + ", GOAL)", x.cell(cell, BoxPusher.GOAL), BoxPusher.FLOOR);
            check.due("cell(" + cell + ", FLOOR)", x.cell(cell, BoxPusher.FLOOR), BoxPusher.GOAL);
        }
        check.due("the box and the pusher stay", Store.stand(x), "[1] 0 0");
    }

    private static void cellAnswersTheOldKind() {
        check.sentence("Promise 2: Else answers the old kind");
        // Every kind after every kind, the same one too.
        int[] kinds = {0, 0, 1, 1, 2, 2, 0, 2, 1, 0};
        for (int cell : new int[] {1, 15}) {
            BoxPusher x = new BoxPusher();
            int old = BoxPusher.FLOOR;
            for (int kind : kinds) {
                check.due("cell(" + cell + ", " + kind + ")", x.cell(cell, kind), old);
                old = kind;
            }
        }
    }

    private static void boxBadCell() {
        check.sentence("Promise 3: BAD_CELL");
        for (int cell : Store.NO_CELLS) {
            BoxPusher x = new BoxPusher();
            for (int boxes = 0; boxes <= 2; boxes++) {
                check.due(boxes + " boxes, box(" + cell + ", true)", x.box(cell, true), BoxPusher.BAD_CELL);
                check.due(boxes + " boxes, box(" + cell + ", false)", x.box(cell, false), BoxPusher.BAD_CELL);
                x.box(5 + boxes, true);
            }
        }
    }

    private static void boxTaken() {
        check.sentence("Promise 3: to be put, and the cell is a wall, or has the pusher or a box: TAKEN");
        BoxPusher x = Store.drawn("@---", "----", "----", "---#");
        check.due("a wall: box(15, true)", x.box(15, true), BoxPusher.TAKEN);
        check.due("the pusher: box(0, true)", x.box(0, true), BoxPusher.TAKEN);
        check.due("box(5, true)", x.box(5, true), 1);
        check.due("a box: box(5, true)", x.box(5, true), BoxPusher.TAKEN);
        check.due("box(6, true)", x.box(6, true), 2);
        check.due("the first of two: box(5, true)", x.box(5, true), BoxPusher.TAKEN);
        check.due("the second of two: box(6, true)", x.box(6, true), BoxPusher.TAKEN);
        check.due("a wall, two boxes: box(15, true)", x.box(15, true), BoxPusher.TAKEN);
        check.due("the pusher, two boxes: box(0, true)", x.box(0, true), BoxPusher.TAKEN);
        check.due("all refused", Store.stand(x), "[5, 6] 0 0");
        check.due("a goal is free: box(9, true)", Store.drawn("@---", "----", "-.--", "----").box(9, true), 1);
    }

    private static void boxFull() {
        check.sentence("Promise 3: to be put, and there are two boxes: FULL");
        for (int cell = 2; cell < 15; cell++) {
            BoxPusher x = Store.drawn("@$--", "----", "----", "---$");
            check.due("box(" + cell + ", true)", x.box(cell, true), BoxPusher.FULL);
            check.due("after box(" + cell + ", true)", Store.stand(x), "[1, 15] 0 0");
            check.due("a goal: cell(" + cell + ", GOAL)", x.cell(cell, BoxPusher.GOAL), BoxPusher.FLOOR);
            check.due("a goal: box(" + cell + ", true)", x.box(cell, true), BoxPusher.FULL);
        }
        // Room again as soon as one is gone, whichever of the two.
        for (int gone : new int[] {1, 15}) {
            BoxPusher x = Store.drawn("@$--", "----", "----", "---$");
            check.due("box(" + gone + ", false)", x.box(gone, false), 1);
            check.due("box(9, true)", x.box(9, true), 2);
            check.due("box(10, true)", x.box(10, true), BoxPusher.FULL);
        }
    }

    private static void boxNone() {
        check.sentence("Promise 3: to be taken off, and there is none: NONE");
        BoxPusher x = Store.drawn("@$--", "----", "----", "$--#");
        for (int cell = 0; cell < 16; cell++) {
            if (cell != 1 && cell != 12) {
                check.due("box(" + cell + ", false)", x.box(cell, false), BoxPusher.NONE);
            }
        }
        check.due("all refused", Store.stand(x), "[1, 12] 0 0");
        check.due("box(1, false)", x.box(1, false), 1);
        check.due("box(1, false) again", x.box(1, false), BoxPusher.NONE);
        check.due("box(12, false)", x.box(12, false), 0);
        check.due("box(12, false) again", x.box(12, false), BoxPusher.NONE);
        // Where a box was before it was pushed there is none.
        BoxPusher y = Store.drawn("@$--", "----", "----", "----");
        y.move(3);
        check.due("pushed away: box(1, false)", y.box(1, false), BoxPusher.NONE);
        check.due("pushed there: box(2, false)", y.box(2, false), 0);
    }

    private static void boxAnswersHowMany() {
        check.sentence("Promise 3: Else answers how many boxes there are");
        BoxPusher x = new BoxPusher();
        check.due("box(14, true)", x.box(14, true), 1);
        check.due("box(15, true)", x.box(15, true), 2);
        check.due("box(14, false)", x.box(14, false), 1);
        check.due("the other stays", Store.stand(x), "[15] 0 0");
        check.due("box(14, true)", x.box(14, true), 2);
        check.due("box(15, false)", x.box(15, false), 1);
        check.due("the other stays", Store.stand(x), "[14] 0 0");
        check.due("box(14, false)", x.box(14, false), 0);
        check.due("none is left", Store.stand(x), "[] 0 0");
    }

    private static void placeBadCell() {
        check.sentence("Promise 4: BAD_CELL");
        for (int cell : Store.NO_CELLS) {
            BoxPusher x = Store.drawn("----", "-@--", "----", "----");
            check.due("place(" + cell + ")", x.place(cell), BoxPusher.BAD_CELL);
            check.due("after place(" + cell + "), pusher()", x.pusher(), 5);
        }
    }

    private static void placeTaken() {
        check.sentence("Promise 4: it is a wall or has a box: TAKEN");
        BoxPusher x = Store.drawn("@$--", "*---", "----", "---#");
        check.due("the first box: place(1)", x.place(1), BoxPusher.TAKEN);
        check.due("the second box, on a goal: place(4)", x.place(4), BoxPusher.TAKEN);
        check.due("a wall: place(15)", x.place(15), BoxPusher.TAKEN);
        check.due("all refused", Store.stand(x), "[1, 4] 0 0");
        x.move(3);
        check.due("pushed there: place(2)", x.place(2), BoxPusher.TAKEN);
        x.cell(15, BoxPusher.GOAL);
        check.due("no wall any more: place(15)", x.place(15), 1);
        x.box(2, false);
        check.due("no box any more: place(2)", x.place(2), 15);
    }

    private static void placeAnswersWhereItWas() {
        check.sentence("Promise 4: Else answers the cell where it was");
        BoxPusher x = new BoxPusher();
        check.due("where it is: place(0)", x.place(0), 0);
        check.due("place(15)", x.place(15), 0);
        check.due("where it is: place(15)", x.place(15), 15);
        check.due("move(0)", x.move(0), 0);
        check.due("after a move: place(0)", x.place(0), 11);
        check.due("pusher()", x.pusher(), 0);
    }

    private static void hasBoxOfNoCell() {
        check.sentence("Promise 13: false if there is no such cell");
        BoxPusher[] stores = {new BoxPusher(), Store.drawn("@$--", "----", "----", "----"),
            Store.drawn("$@--", "----", "----", "---$")};
        for (BoxPusher x : stores) {
            for (int cell : Store.NO_CELLS) {
                check.due(Store.stand(x) + ": hasBox(" + cell + ")", x.hasBox(cell), false);
            }
        }
    }

    private static void hasBoxOfTheFirstAndTheLastCell() {
        check.sentence("Promise 13: Whether the cell has a box");
        BoxPusher x = Store.drawn("$@-#", "----", "----", "---$");
        for (int cell = 0; cell < 16; cell++) {
            check.due("hasBox(" + cell + ")", x.hasBox(cell), cell == 0 || cell == 15);
        }
        x.box(0, false);
        check.due("taken off: hasBox(0)", x.hasBox(0), false);
        x.box(15, false);
        check.due("taken off: hasBox(15)", x.hasBox(15), false);
    }

    private static void pusherOnTheFirstAndTheLastCell() {
        check.sentence("Promise 14: The pusher's cell");
        BoxPusher x = new BoxPusher();
        x.place(15);
        check.due("pusher()", x.pusher(), 15);
        x.move(1);
        check.due("after a refused move: pusher()", x.pusher(), 15);
        x.place(16);
        check.due("after a refused place: pusher()", x.pusher(), 15);
        x.move(2);
        check.due("after a move: pusher()", x.pusher(), 14);
        x.undo();
        check.due("after undo: pusher()", x.pusher(), 15);
        x.place(0);
        check.due("pusher()", x.pusher(), 0);
    }
}
