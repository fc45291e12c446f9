import java.util.ArrayList;
import java.util.List;
import java.util.TreeSet;
import java.util.function.Supplier;
import java.util.function.ToIntFunction;

/** The boundary cases that the document's Terms name, a method for each sentence. */
public final class BoundaryTermsTest {
    private static final Check check = new Check();

    /** A call, with the words that tell it; a boolean counts 1 or 0. */
    private record Call(String words, ToIntFunction<BoxPusher> made) { }

    public static void main(String[] args) {
        atMostTwoBoxesOnDifferentCells();
        thereHasToBeSuchACell();
        thatIsNoWall();
        theCellBehindHasToBeThere();
        theCellBehindIsNoWall();
        theCellBehindIsWithoutABox();
        doneAlsoWithoutBoxes();
        testsAreMadeInTheirOrder();
        aRefusedCallChangesNothing();
        aCellNotInRangeIsBadCell();
        cellBoxAndPlaceForgetTheMoves();
        theCallsBelowChangeNothing();
        check.end();
    }

    private static void atMostTwoBoxesOnDifferentCells() {
        check.sentence("At most two boxes stand on different cells that are no walls, and a pusher on one that"
            + " is no wall and has no box");
        BoxPusher x = Store.drawn("@---", "----", "----", "---#");
        for (int round = 0; round < 2; round++) {
            for (int cell = 0; cell < 16; cell++) {
                x.box(cell, true);
            }
        }
        check.due("box on every cell, twice", Store.stand(x), "[1, 2] 0 0");
        for (int cell = 0; cell < 16; cell++) {
            x.place(cell);
            check.due("place(" + cell + "), a box under the pusher", x.hasBox(x.pusher()), false);
            check.due("place(" + cell + "), the pusher on the wall", x.pusher() == 15, false);
        }
        check.due("place on every cell", Store.stand(x), "[1, 2] 14 0");
        for (int cell = 0; cell < 16; cell++) {
            x.cell(cell, BoxPusher.WALL);
        }
        check.due("a wall on every cell", Store.stand(x), "[1, 2] 14 0");
        check.due("under a box: cell(1, FLOOR)", x.cell(1, BoxPusher.FLOOR), BoxPusher.FLOOR);
        check.due("under a box: cell(2, FLOOR)", x.cell(2, BoxPusher.FLOOR), BoxPusher.FLOOR);
        check.due("under the pusher: cell(14, FLOOR)", x.cell(14, BoxPusher.FLOOR), BoxPusher.FLOOR);
        check.due("elsewhere: cell(13, FLOOR)", x.cell(13, BoxPusher.FLOOR), BoxPusher.WALL);
    }

    private static void thereHasToBeSuchACell() {
        check.sentence("There has to be such a cell");
        // Neither over the edge nor round it, to the next row or to the first one.
        int[][] edges = {{0, 1, 2, 3}, {12, 13, 14, 15}, {0, 4, 8, 12}, {3, 7, 11, 15}};
        for (int direction = 0; direction < 4; direction++) {
            for (int cell : edges[direction]) {
                BoxPusher x = new BoxPusher();
                x.place(cell);
                check.due("from " + cell + " move(" + direction + ")", x.move(direction), BoxPusher.BLOCKED);
                check.due("from " + cell + " move(" + direction + "), pusher()", x.pusher(), cell);
            }
        }
    }

    private static void thatIsNoWall() {
        check.sentence("such a cell that is no wall");
        int[] next = {1, 9, 4, 6};
        for (int direction = 0; direction < 4; direction++) {
            BoxPusher x = new BoxPusher();
            x.place(5);
            x.cell(next[direction], BoxPusher.WALL);
            check.due("a wall, move(" + direction + ")", x.move(direction), BoxPusher.BLOCKED);
            check.due("a wall, pusher()", x.pusher(), 5);
            x.cell(next[direction], BoxPusher.GOAL);
            check.due("a goal, move(" + direction + ")", x.move(direction), 0);
            check.due("a goal, pusher()", x.pusher(), next[direction]);
        }
    }

    private static void theCellBehindHasToBeThere() {
        check.sentence("the cell behind, which has to be there");
        int[][] edges = {{0, 1, 2, 3}, {12, 13, 14, 15}, {0, 4, 8, 12}, {3, 7, 11, 15}};
        int[] step = {-4, 4, -1, 1};
        for (int direction = 0; direction < 4; direction++) {
            for (int cell : edges[direction]) {
                BoxPusher x = new BoxPusher();
                int from = cell - step[direction];
                x.place(from);
                x.box(cell, true);
                check.due("a box on " + cell + ", move(" + direction + ")", x.move(direction), BoxPusher.BLOCKED);
                check.due("a box on " + cell, Store.stand(x), "[" + cell + "] " + from + " 0");
            }
        }
    }

    private static void theCellBehindIsNoWall() {
        check.sentence("the cell behind, which has to be no wall");
        blockedBehind(x -> x.cell(6, BoxPusher.WALL), 3, 4, 5, "[5] 4 0");
        blockedBehind(x -> x.cell(5, BoxPusher.WALL), 2, 7, 6, "[6] 7 0");
        blockedBehind(x -> x.cell(9, BoxPusher.WALL), 1, 1, 5, "[5] 1 0");
        blockedBehind(x -> x.cell(5, BoxPusher.WALL), 0, 13, 9, "[9] 13 0");
    }

    private static void theCellBehindIsWithoutABox() {
        check.sentence("the cell behind, which has to be without a box");
        blockedBehind(x -> x.box(6, true), 3, 4, 5, "[5, 6] 4 0");
        blockedBehind(x -> x.box(5, true), 2, 7, 6, "[5, 6] 7 0");
        blockedBehind(x -> x.box(9, true), 1, 1, 5, "[5, 9] 1 0");
        blockedBehind(x -> x.box(5, true), 0, 13, 9, "[5, 9] 13 0");
        // A box before two free cells: the other one stands further off and blocks the second push alone.
        BoxPusher x = Store.drawn("@$-$", "----", "----", "----");
        check.due("move(3)", x.move(3), 1);
        check.due("move(3) again", x.move(3), BoxPusher.BLOCKED);
        check.due("after it", Store.stand(x), "[2, 3] 1 1");
    }

    /** With what stands behind put there before the pushed box, and after it. */
    private static void blockedBehind(ToIntFunction<BoxPusher> put, int direction, int from, int box, String stand) {
        for (int order = 0; order < 2; order++) {
            BoxPusher x = new BoxPusher();
            x.place(from);
            if (order == 0) {
                put.applyAsInt(x);
            }
            x.box(box, true);
            if (order == 1) {
                put.applyAsInt(x);
            }
            check.due("from " + from + " move(" + direction + ")", x.move(direction), BoxPusher.BLOCKED);
            check.due("from " + from + " move(" + direction + "), after it", Store.stand(x), stand);
        }
    }

    private static void doneAlsoWithoutBoxes() {
        check.sentence("The store is done if every box stands on a goal (also without boxes)");
        check.due("no box, no goal", new BoxPusher().done(), true);
        check.due("no box, a goal", Store.drawn("@---", "-.--", "----", "----").done(), true);
        check.due("one box, on a goal", Store.drawn("@---", "-*--", "----", "----").done(), true);
        check.due("one box, on floor", Store.drawn("@---", "-$--", "----", "----").done(), false);
        check.due("two boxes, the first on floor", Store.drawn("@---", "-$--", "-*--", "----").done(), false);
        check.due("two boxes, the second on floor", Store.drawn("@---", "-*--", "-$--", "----").done(), false);
        check.due("two boxes, on goals", Store.drawn("@---", "-*--", "-*--", "----").done(), true);
        check.due("two boxes, on goals, a goal free", Store.drawn("@---", "-*--", "-*--", ".--.").done(), true);
        check.due("the pusher on a goal, no box there", Store.drawn("+---", "-$--", "----", "----").done(), false);
    }

    private static void testsAreMadeInTheirOrder() {
        check.sentence("Tests are made in the order in which they are named");
        BoxPusher x = Store.drawn("@$--", "-$--", "----", "---#");
        for (int cell : Store.NO_CELLS) {
            check.due("no cell before no kind: cell(" + cell + ", 3)", x.cell(cell, 3), BoxPusher.BAD_CELL);
            check.due("no cell before two boxes: box(" + cell + ", true)", x.box(cell, true), BoxPusher.BAD_CELL);
            check.due("no cell before no box: box(" + cell + ", false)", x.box(cell, false), BoxPusher.BAD_CELL);
        }
        check.due("no kind before the pusher: cell(0, 3)", x.cell(0, 3), BoxPusher.BAD_KIND);
        check.due("no kind before a box: cell(1, -1)", x.cell(1, -1), BoxPusher.BAD_KIND);
        check.due("a wall before two boxes: box(15, true)", x.box(15, true), BoxPusher.TAKEN);
        check.due("the pusher before two boxes: box(0, true)", x.box(0, true), BoxPusher.TAKEN);
        check.due("a box before two boxes: box(1, true)", x.box(1, true), BoxPusher.TAKEN);
        check.due("a box before two boxes: box(5, true)", x.box(5, true), BoxPusher.TAKEN);
        BoxPusher shutIn = Store.drawn("@#--", "#---", "----", "----");
        check.due("no direction before no way: move(4)", shutIn.move(4), BoxPusher.BAD_KIND);
        check.due("no direction before no way: move(-1)", shutIn.move(-1), BoxPusher.BAD_KIND);
    }

    private static List<Supplier<BoxPusher>> situations() {
        List<Supplier<BoxPusher>> all = new ArrayList<>();
        all.add(BoxPusher::new);
        all.add(() -> Store.drawn("@#--", "#---", "--.-", "----"));
        all.add(() -> Store.drawn("@$-#", "-$-.", ".---", "----"));
        all.add(() -> {
            BoxPusher x = Store.drawn("@$--", "---.", "-$.-", "#---");
            Store.moveAll(x, 3, 1, 1, 0, 2);
            return x;
        });
        all.add(() -> {
            // The row of moves is full, and its first push has left it.
            BoxPusher x = Store.drawn("@$--", "----", "-.--", "---#");
            for (int i = 0; i < 6; i++) {
                Store.moveAll(x, 3, 1, 2, 0);
            }
            Store.moveAll(x, 3, 3);
            return x;
        });
        return all;
    }

    private static List<Call> changes() {
        List<Call> all = new ArrayList<>();
        for (int at = -1; at <= 16; at++) {
            int cell = at;
            for (int what = -1; what <= 3; what++) {
                int kind = what;
                all.add(new Call("cell(" + cell + ", " + kind + ")", x -> x.cell(cell, kind)));
            }
            all.add(new Call("box(" + cell + ", true)", x -> x.box(cell, true)));
            all.add(new Call("box(" + cell + ", false)", x -> x.box(cell, false)));
            all.add(new Call("place(" + cell + ")", x -> x.place(cell)));
        }
        return all;
    }

    private static List<Call> moves() {
        List<Call> all = new ArrayList<>();
        for (int way = -1; way <= 4; way++) {
            int direction = way;
            all.add(new Call("move(" + direction + ")", x -> x.move(direction)));
        }
        all.add(new Call("undo()", x -> x.undo()));
        return all;
    }

    private static void aRefusedCallChangesNothing() {
        check.sentence("a refused call changes nothing");
        List<Call> calls = changes();
        calls.addAll(moves());
        TreeSet<String> met = new TreeSet<>();
        for (Supplier<BoxPusher> situation : situations()) {
            String before = Store.whole(situation.get());
            for (Call call : calls) {
                BoxPusher x = situation.get();
                int answer = call.made.applyAsInt(x);
                if (answer < 0) {
                    met.add(call.words.replaceAll("\\(.*", "") + answer);
                    check.due("all that is known after " + call.words, Store.whole(x), before);
                }
            }
        }
        check.due("the refusals met", met.toString(),
            "[box-1, box-3, box-4, box-6, cell-1, cell-2, cell-3, move-2, move-5, place-1, place-3, undo-6]");
    }

    private static void aCellNotInRangeIsBadCell() {
        check.sentence("A cell not in 0 to 15 is BAD_CELL");
        for (int cell : Store.NO_CELLS) {
            BoxPusher x = new BoxPusher();
            for (int kind = BoxPusher.FLOOR; kind <= BoxPusher.GOAL; kind++) {
                check.due("cell(" + cell + ", " + kind + ")", x.cell(cell, kind), BoxPusher.BAD_CELL);
            }
            check.due("box(" + cell + ", true)", x.box(cell, true), BoxPusher.BAD_CELL);
            check.due("box(" + cell + ", false)", x.box(cell, false), BoxPusher.BAD_CELL);
            check.due("place(" + cell + ")", x.place(cell), BoxPusher.BAD_CELL);
        }
        for (int cell : new int[] {0, 15}) {
            BoxPusher x = new BoxPusher();
            x.place(5);
            check.due("cell(" + cell + ", GOAL)", x.cell(cell, BoxPusher.GOAL), BoxPusher.FLOOR);
            check.due("box(" + cell + ", true)", x.box(cell, true), 1);
            check.due("box(" + cell + ", false)", x.box(cell, false), 0);
            check.due("place(" + cell + ")", x.place(cell), 5);
        }
    }

    private static void cellBoxAndPlaceForgetTheMoves() {
        check.sentence("cell, box and place forget the moves made (nothing can be taken back then)");
        TreeSet<String> met = new TreeSet<>();
        for (Supplier<BoxPusher> situation : situations()) {
            for (Call call : changes()) {
                BoxPusher x = situation.get();
                if (call.made.applyAsInt(x) >= 0) {
                    met.add(call.words.replaceAll("\\(.*", ""));
                    String after = Store.stand(x);
                    check.due(call.words + ", pushes()", x.pushes(), 0);
                    check.due(call.words + ", undo()", x.undo(), BoxPusher.NONE);
                    check.due(call.words + ", after undo()", Store.stand(x), after);
                }
            }
        }
        check.due("the calls met", met.toString(), "[box, cell, place]");
        // Also where the call leaves all as it was.
        BoxPusher x = Store.drawn("@$--", "----", "----", "----");
        x.move(3);
        check.due("cell(9, FLOOR) on floor", x.cell(9, BoxPusher.FLOOR), BoxPusher.FLOOR);
        check.due("undo()", x.undo(), BoxPusher.NONE);
        x.move(3);
        check.due("place(2) where it is", x.place(2), 2);
        check.due("undo()", x.undo(), BoxPusher.NONE);
        // What was forgotten does not come back with the moves made later.
        check.due("move(2)", x.move(2), 0);
        check.due("undo() of it", x.undo(), 2);
        check.due("undo() of no other", x.undo(), BoxPusher.NONE);
        check.due("after all", Store.stand(x), "[3] 2 0");
    }

    private static void theCallsBelowChangeNothing() {
        check.sentence("The calls below change nothing");
        List<Call> looks = new ArrayList<>();
        looks.add(new Call("done()", x -> x.done() ? 1 : 0));
        looks.add(new Call("leastMoves()", x -> x.leastMoves()));
        looks.add(new Call("leastPushes()", x -> x.leastPushes()));
        looks.add(new Call("bestMove()", x -> x.bestMove()));
        looks.add(new Call("region()", x -> x.region()));
        looks.add(new Call("pusher()", x -> x.pusher()));
        looks.add(new Call("pushes()", x -> x.pushes()));
        for (int at = -1; at <= 16; at++) {
            int cell = at;
            looks.add(new Call("dead(" + cell + ")", x -> x.dead(cell) ? 1 : 0));
            looks.add(new Call("hasBox(" + cell + ")", x -> x.hasBox(cell) ? 1 : 0));
        }
        for (Supplier<BoxPusher> situation : situations()) {
            String before = Store.whole(situation.get());
            for (Call look : looks) {
                BoxPusher x = situation.get();
                int answer = look.made.applyAsInt(x);
                check.due(look.words + " again", look.made.applyAsInt(x), answer);
                check.due("all that is known after " + look.words, Store.whole(x), before);
            }
        }
    }
}
