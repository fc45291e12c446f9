/** The boundary cases of promises 11 and 12, a method for each sentence. */
public final class BoundaryDeadTest {
    private static final Check check = new Check();

    public static void main(String[] args) {
        falseForAWall();
        falseForNoCell();
        falseForAGoal();
        couldNotBeBroughtToAnyGoal();
        wereItTheOnlyOne();
        thePusherBeginsOnWhicheverOtherCell();
        aCellThatIsNoWall();
        noOtherCellAtAll();
        movingAsAlways();
        regionItsOwnCountedIn();
        regionOfAllCells();
        regionWithoutPushing();
        regionOverNoEdgeOrCorner();
        check.end();
    }

    private static void deadAre(String name, BoxPusher x, String due) {
        StringBuilder got = new StringBuilder();
        for (int cell = 0; cell < 16; cell++) {
            got.append(x.dead(cell) ? 'x' : '-').append(cell % 4 == 3 && cell < 15 ? " " : "");
        }
        check.due(name + ": dead cells", got.toString(), due);
    }

    private static void falseForAWall() {
        check.sentence("Promise 11: false for a wall");
        deadAre("walls, no goal", Store.drawn("@#-#", "--#-", "----", "#--#"), "x-x- xx-x xxxx -xx-");
        BoxPusher x = Store.drawn("@---", "----", "----", "----");
        check.due("floor: dead(15)", x.dead(15), true);
        x.cell(15, BoxPusher.WALL);
        check.due("a wall: dead(15)", x.dead(15), false);
        x.cell(15, BoxPusher.FLOOR);
        check.due("floor again: dead(15)", x.dead(15), true);
    }

    private static void falseForNoCell() {
        check.sentence("Promise 11: false for no cell");
        BoxPusher[] stores = {new BoxPusher(), Store.drawn("@---", "-.--", "----", "----"),
            Store.drawn("@$--", "-$--", "--#.", "----")};
        for (BoxPusher x : stores) {
            for (int cell : Store.NO_CELLS) {
                check.due("dead(" + cell + ")", x.dead(cell), false);
            }
        }
    }

    private static void falseForAGoal() {
        check.sentence("Promise 11: false for a goal");
        check.due("in a corner: dead(15)", Store.drawn("@---", "----", "----", "---.").dead(15), false);
        check.due("under the pusher: dead(0)", Store.drawn("+---", "----", "----", "----").dead(0), false);
        check.due("under a box: dead(3)", Store.drawn("@--*", "----", "----", "----").dead(3), false);
        check.due("shut in by walls: dead(15)", Store.drawn("@---", "----", "---#", "--#.").dead(15), false);
        check.due("the only cell: dead(0)", Store.drawn("+###", "####", "####", "####").dead(0), false);
    }

    private static void couldNotBeBroughtToAnyGoal() {
        check.sentence("Promise 11: could not be brought to any goal");
        deadAre("no goal", new BoxPusher(), "xxxx xxxx xxxx xxxx");
        deadAre("a goal inside", Store.drawn("@---", "-.--", "----", "----"), "xxxx x--x x--x xxxx");
        deadAre("a goal at the edge", Store.drawn("@.--", "----", "----", "----"), "x--x x--x x--x xxxx");
        deadAre("a goal in a corner", Store.drawn("@---", "----", "----", "---."), "xxxx x--- x--- x---");
        deadAre("two goals", Store.drawn("@---", "----", "----", ".--."), "xxxx ---- ---- ----");
        deadAre("a goal no box can come to", Store.drawn("@---", "----", "---#", "--#."), "xxxx xxxx xxx- xx--");
    }

    private static void wereItTheOnlyOne() {
        check.sentence("Promise 11: were it the only one");
        String due = "xxxx x--x x--x xxxx";
        deadAre("boxes round a cell", Store.drawn("@---", "-.$-", "--$-", "----"), due);
        deadAre("boxes in the way", Store.drawn("@---", "$*--", "----", "----"), due);
        deadAre("the pusher on the cell", Store.drawn("----", "-.@-", "----", "----"), due);
        // Where both could not be done, each alone could.
        deadAre("two boxes, one goal", Store.drawn("@---", "-.--", "-$$-", "----"), due);
        // The pusher may begin where there now is a box.
        deadAre("a box on the only beginning", Store.drawn("$--.", "####", "@###", "####"), "x--- ---- x--- ----");
    }

    private static void thePusherBeginsOnWhicheverOtherCell() {
        check.sentence("Promise 11: the pusher beginning on whichever other cell");
        // The box on 1 or 2 is brought to 3 from its left alone, wherever the pusher now stands.
        String due = "x--- ---- xxxx xxxx";
        deadAre("left of it", Store.drawn("@--.", "####", "----", "----"), due);
        deadAre("on it", Store.drawn("-@-.", "####", "----", "----"), due);
        deadAre("right of it", Store.drawn("---+", "####", "----", "----"), due);
        deadAre("shut off from it", Store.drawn("---.", "####", "-@--", "----"), due);
        deadAre("shut in", Store.drawn("@#--", "#---", "--.-", "----"), "x-xx -x-x x--x xxxx");
    }

    private static void aCellThatIsNoWall() {
        check.sentence("Promise 11: whichever other cell that is no wall");
        check.due("floor at its left: dead(1)", Store.drawn("---.", "####", "@---", "----").dead(1), false);
        check.due("a goal at its left: dead(1)", Store.drawn(".--.", "####", "@---", "----").dead(1), false);
        check.due("a wall at its left: dead(1)", Store.drawn("#--.", "####", "@---", "----").dead(1), true);
        check.due("floor at its left: dead(2)", Store.drawn("#--.", "####", "@---", "----").dead(2), false);
        check.due("the edge at its left: dead(0)", Store.drawn("---.", "####", "@---", "----").dead(0), true);
    }

    private static void noOtherCellAtAll() {
        check.sentence("Promise 11: no other cell that is no wall");
        check.due("floor: dead(0)", Store.drawn("@###", "####", "####", "####").dead(0), true);
        check.due("floor: dead(15)", Store.drawn("####", "####", "####", "###@").dead(15), true);
        check.due("one other, a goal: dead(0)", Store.drawn("@.##", "####", "####", "####").dead(0), true);
    }

    private static void movingAsAlways() {
        check.sentence("Promise 11: (and moving as always from then on)");
        // The pusher can't stand above the box on 2, nor pull it.
        check.due("over the edge: dead(2)", Store.drawn("@---", "----", "----", "--.-").dead(2), true);
        // The box on 6 is pushed left to 5 and then down: the pusher has to come from 6 to 1.
        check.due("no way round: dead(6)", Store.drawn("#-#-", "#---", "--#-", "@.--").dead(6), true);
        check.due("a way round: dead(6)", Store.drawn("#---", "#---", "--#-", "@.--").dead(6), false);
        check.due("beginning on 1: dead(5)", Store.drawn("#-#-", "#---", "--#-", "@.--").dead(5), false);
    }

    private static void regionItsOwnCountedIn() {
        check.sentence("Promise 12: (its own counted in)");
        check.due("shut in by walls", Store.drawn("@#--", "#---", "----", "----").region(), 1);
        check.due("the only cell", Store.drawn("####", "####", "####", "###@").region(), 1);
        check.due("shut in by boxes at the edge", Store.drawn("@$$-", "#---", "----", "----").region(), 1);
        check.due("one more cell", Store.drawn("@-#-", "##--", "----", "----").region(), 2);
        check.due("on a goal", Store.drawn("+#--", "#---", "----", "----").region(), 1);
    }

    private static void regionOfAllCells() {
        check.sentence("Promise 12: How many cells the pusher can come to");
        for (int cell = 0; cell < 16; cell++) {
            BoxPusher x = new BoxPusher();
            x.place(cell);
            check.due("all floor, from " + cell, x.region(), 16);
        }
        check.due("goals too", Store.drawn("@...", "....", "....", "....").region(), 16);
        check.due("one way through all but the walls", Store.drawn("@---", "###-", "----", "-###").region(), 10);
    }

    private static void regionWithoutPushing() {
        check.sentence("Promise 12: without pushing");
        check.due("boxes that could be pushed", Store.drawn("@$--", "$---", "----", "----").region(), 1);
        check.due("a box in a corridor", Store.drawn("@-$-", "####", "----", "----").region(), 2);
        check.due("a box on a goal", Store.drawn("@-*-", "####", "----", "----").region(), 2);
        check.due("a box beside the way", Store.drawn("@---", "-$--", "----", "----").region(), 15);
        check.due("two boxes beside the way", Store.drawn("@---", "-$--", "--$-", "----").region(), 14);
        BoxPusher x = Store.drawn("@$--", "$---", "----", "----");
        x.move(3);
        check.due("after a push", x.region(), 14);
        x.undo();
        check.due("the push taken back", x.region(), 1);
    }

    private static void regionOverNoEdgeOrCorner() {
        check.sentence("Promise 12: can come to");
        check.due("not from the end of a row to the next", Store.drawn("--#@", "--##", "----", "----").region(), 1);
        check.due("not from a row's beginning to the one before", Store.drawn("----", "##--", "@#--", "##--").region(), 1);
        check.due("not from the last row to the first", Store.drawn("----", "####", "####", "@---").region(), 4);
        check.due("not over a corner", Store.drawn("@#--", "#-#-", "-#--", "----").region(), 1);
    }
}
