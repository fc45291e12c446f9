/** Long runs of mixed calls, the same each time, whose answers have to be those of the Model. */
public final class ModelTest {
    private static final int RUNS = 120;
    private static final int CALLS = 512;

    private final Check check;
    private final int run;
    private final BoxPusher real = new BoxPusher();
    private final Model model = new Model();
    private long seed;

    private ModelTest(Check check, int run) {
        this.check = check;
        this.run = run;
        this.seed = run * 7919L + 17;
    }

    public static void main(String[] args) {
        Check check = new Check();
        for (int run = 0; run < RUNS && check.wrong() == 0; run++) {
            new ModelTest(check, run).play();
        }
        check.end();
    }

    /** The next of a fixed row of numbers, 0 to bound - 1. */
    private int next(int bound) {
        seed = seed * 6364136223846793005L + 1442695040888963407L;
        return (int) ((seed >>> 33) % bound);
    }

    private void play() {
        // Some runs stay as they were set up, others are set up again and again.
        int setUp = 1 + run % 3 * 12;
        for (int call = 0; call < 14; call++) {
            change();
        }
        for (int call = 14; call < CALLS; call++) {
            int which = next(100);
            if (which < setUp) {
                change();
            } else if (which < 72) {
                // Now and then far more undo than moves, so that the row of moves runs empty.
                step(call / 50 % 3 == 2 ? 90 : 15);
            } else {
                look();
            }
        }
    }

    private int anyCell() {
        return next(18) - 1;
    }

    private void change() {
        int cell = anyCell();
        switch (next(5)) {
            case 0, 1 -> {
                int kind = next(16) == 0 ? next(2) * 4 - 1 : new int[] {0, 0, 1, 2, 2}[next(5)];
                due("cell(" + cell + ", " + kind + ")", real.cell(cell, kind), model.cell(cell, kind));
            }
            case 2 -> due("box(" + cell + ", true)", real.box(cell, true), model.box(cell, true));
            case 3 -> {
                boolean on = next(3) > 0;
                due("box(" + cell + ", " + on + ")", real.box(cell, on), model.box(cell, on));
            }
            default -> due("place(" + cell + ")", real.place(cell), model.place(cell));
        }
    }

    private void step(int undoPercent) {
        if (next(100) < undoPercent) {
            due("undo()", real.undo(), model.undo());
        } else {
            int direction = next(30) == 0 ? next(2) * 5 - 1 : next(4);
            due("move(" + direction + ")", real.move(direction), model.move(direction));
        }
    }

    private void look() {
        int cell = anyCell();
        switch (next(9)) {
            case 0 -> check.due(at("done()"), real.done(), model.done());
            case 1 -> due("leastMoves()", real.leastMoves(), model.leastMoves());
            case 2 -> due("leastPushes()", real.leastPushes(), model.leastPushes());
            case 3 -> due("bestMove()", real.bestMove(), model.bestMove());
            case 4 -> check.due(at("dead(" + cell + ")"), real.dead(cell), model.dead(cell));
            case 5 -> due("region()", real.region(), model.region());
            case 6 -> check.due(at("hasBox(" + cell + ")"), real.hasBox(cell), model.hasBox(cell));
            case 7 -> due("pusher()", real.pusher(), model.pusher());
            default -> due("pushes()", real.pushes(), model.pushes());
        }
    }

    private void due(String call, int got, int want) {
        check.due(at(call), got, want);
    }

    private String at(String call) {
        return "run " + run + ": " + call;
    }
}
