/** Promises 7 to 10: ordinary use of done, leastMoves, leastPushes and bestMove. */
public final class SolveTest {
    private static final Check check = new Check();
    private static final int[] NOTHING = {};

    public static void main(String[] args) {
        whatIsDone();
        waysThatAre();
        bestMovesLeadToTheEnd();
        check.end();
    }

    private static BoxPusher store(int pusher, int[] walls, int[] goals, int... boxes) {
        BoxPusher x = new BoxPusher();
        x.place(pusher);
        for (int cell : walls) {
            x.cell(cell, BoxPusher.WALL);
        }
        for (int cell : goals) {
            x.cell(cell, BoxPusher.GOAL);
        }
        for (int cell : boxes) {
            x.box(cell, true);
        }
        return x;
    }

    private static int[] at(int... cells) {
        return cells;
    }

    private static void answers(String name, BoxPusher x, int moves, int pushes, int best) {
        check.due(name + ": done()", x.done(), moves == 0);
        check.due(name + ": leastMoves()", x.leastMoves(), moves);
        check.due(name + ": leastPushes()", x.leastPushes(), pushes);
        check.due(name + ": bestMove()", x.bestMove(), best);
    }

    private static void isDone(String name, BoxPusher x) {
        answers(name, x, 0, 0, BoxPusher.NONE);
    }

    private static void cannotBe(String name, BoxPusher x) {
        answers(name, x, BoxPusher.NONE, BoxPusher.NONE, BoxPusher.NONE);
    }

    private static void whatIsDone() {
        isDone("no boxes, no goals", store(0, NOTHING, NOTHING));
        isDone("no boxes, a goal", store(0, NOTHING, at(5)));
        isDone("one box on a goal", store(0, NOTHING, at(5), 5));
        isDone("one box on one of the goals", store(0, NOTHING, at(5, 6, 0), 6));
        isDone("two boxes on goals", store(0, NOTHING, at(3, 15), 15, 3));
        check.due("a box on floor: done()", store(0, NOTHING, at(5), 6).done(), false);
        check.due("the first box on floor: done()", store(0, NOTHING, at(5), 6, 5).done(), false);
        check.due("the second box on floor: done()", store(0, NOTHING, at(5), 5, 6).done(), false);
        BoxPusher x = store(0, NOTHING, at(5), 5, 6);
        x.box(6, false);
        isDone("the box on floor taken off", x);
        x.cell(5, BoxPusher.FLOOR);
        cannotBe("the goal made floor", x);
    }

    private static void waysThatAre() {
        answers("two pushes ahead", store(4, NOTHING, at(7), 5), 2, 2, 3);
        answers("a walk and two pushes", store(0, NOTHING, at(7), 5), 3, 2, 1);
        answers("one push up", store(13, NOTHING, at(5), 9), 1, 1, 0);
        answers("one push left", store(6, NOTHING, at(4), 5), 1, 1, 2);
        answers("the nearer goal", store(4, NOTHING, at(7, 13), 5), 2, 2, 3);
        answers("two boxes, two goals", store(0, NOTHING, at(2, 8), 1, 4), 3, 2, 1);
        answers("a box on its goal stays", store(4, NOTHING, at(3, 7), 3, 6), 2, 1, 3);
        answers("both in a corridor", store(0, at(4, 5, 6, 7), at(2, 3), 1, 3), 1, 1, 3);
        answers("round a wall", store(0, at(1), at(7), 6), 3, 1, 1);
    }

    private static void bestMovesLeadToTheEnd() {
        BoxPusher x = store(1, at(13), at(1, 5), 9, 10);
        for (int left = 25; left > 0; left--) {
            check.due(left + " left: leastMoves()", x.leastMoves(), left);
            check.due(left + " left: done()", x.done(), false);
            int best = x.bestMove();
            int answer = x.move(best);
            check.due(left + " left: the best move is possible", answer == 0 || answer == 1, true);
        }
        isDone("at the end of the best moves", x);
        check.due("undo() at the end", x.undo() >= 0, true);
        check.due("one taken back: leastMoves()", x.leastMoves(), 1);
    }
}
