/** Promises 11 and 12: ordinary use of dead and region. */
public final class DeadTest {
    private static final Check check = new Check();

    public static void main(String[] args) {
        otherBoxesDoNotCount();
        thePusherBeginsAnywhere();
        regionOfFloor();
        regionEndsAtWalls();
        regionEndsAtBoxes();
        check.end();
    }

    private static BoxPusher corridor() {
        BoxPusher x = new BoxPusher();
        for (int cell = 4; cell < 8; cell++) {
            x.cell(cell, BoxPusher.WALL);
        }
        return x;
    }

    private static void deadAre(String name, BoxPusher x, int... cells) {
        for (int cell = 0; cell < 16; cell++) {
            boolean want = false;
            for (int dead : cells) {
                want |= dead == cell;
            }
            check.due(name + ": dead(" + cell + ")", x.dead(cell), want);
        }
    }

    private static void otherBoxesDoNotCount() {
        BoxPusher x = new BoxPusher();
        x.cell(5, BoxPusher.GOAL);
        check.due("dead(6)", x.dead(6), false);
        x.box(5, true);
        x.box(7, true);
        check.due("dead(6) between two boxes", x.dead(6), false);
        check.due("dead(7) with a box on it", x.dead(7), true);
        check.due("dead(9)", x.dead(9), false);
        x.box(5, false);
        x.box(9, true);
        check.due("dead(9) with a box on it", x.dead(9), false);
        check.due("dead(15)", x.dead(15), true);
    }

    private static void thePusherBeginsAnywhere() {
        // From 2 or 3 the box on 1 could not be brought to 3, from 0 it can be.
        BoxPusher x = corridor();
        x.cell(3, BoxPusher.GOAL);
        for (int cell : new int[] {0, 1, 2, 3, 8, 15}) {
            x.place(cell);
            deadAre("a corridor, pusher on " + cell, x, 0, 8, 9, 10, 11, 12, 13, 14, 15);
        }
        x.place(3);
        x.cell(0, BoxPusher.WALL);
        check.due("no pusher begins on a wall: dead(1)", x.dead(1), true);
        check.due("dead(2), beginning on 1", x.dead(2), false);
        // The pusher that is shut in is not where the one that is meant begins.
        BoxPusher y = new BoxPusher();
        y.cell(1, BoxPusher.WALL);
        y.cell(4, BoxPusher.WALL);
        y.cell(10, BoxPusher.GOAL);
        check.due("shut in: dead(6)", y.dead(6), false);
        check.due("shut in: dead(9)", y.dead(9), false);
        check.due("shut in: dead(0)", y.dead(0), true);
        check.due("shut in: dead(15)", y.dead(15), true);
    }

    private static void regionOfFloor() {
        BoxPusher x = new BoxPusher();
        x.cell(9, BoxPusher.GOAL);
        x.cell(0, BoxPusher.GOAL);
        check.due("goals are walked on: region()", x.region(), 16);
        x.box(5, true);
        check.due("one box: region()", x.region(), 15);
        x.box(9, true);
        check.due("two boxes: region()", x.region(), 14);
        x.cell(15, BoxPusher.WALL);
        check.due("a wall: region()", x.region(), 13);
    }

    private static void regionEndsAtWalls() {
        BoxPusher x = corridor();
        check.due("above: region()", x.region(), 4);
        x.place(9);
        check.due("below: region()", x.region(), 8);
        x.cell(6, BoxPusher.FLOOR);
        check.due("a door: region()", x.region(), 13);
        BoxPusher y = new BoxPusher();
        y.cell(1, BoxPusher.WALL);
        y.cell(4, BoxPusher.WALL);
        check.due("shut in, no way over a corner: region()", y.region(), 1);
        y.place(5);
        check.due("outside: region()", y.region(), 13);
    }

    private static void regionEndsAtBoxes() {
        BoxPusher x = new BoxPusher();
        x.box(1, true);
        x.box(4, true);
        check.due("shut in by boxes that could be pushed: region()", x.region(), 1);
        x.move(3);
        check.due("one pushed: region()", x.region(), 14);
        BoxPusher y = corridor();
        y.box(2, true);
        check.due("a box in a corridor: region()", y.region(), 2);
        y.place(3);
        check.due("the other side of it: region()", y.region(), 1);
    }
}
