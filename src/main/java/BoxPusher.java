public final class BoxPusher {
    public static final int BAD_CELL = -1;
    public static final int BAD_KIND = -2;
    public static final int TAKEN = -3;
    public static final int FULL = -4;
    public static final int BLOCKED = -5;
    public static final int NONE = -6;
    public static final int FLOOR = 0;
    public static final int WALL = 1;
    public static final int GOAL = 2;

    private static final int WIDTH = 4;
    private static final int CELLS = 16;
    private static final int DIRECTIONS = 4;
    private static final int UP = 0;
    private static final int DOWN = 1;
    private static final int LEFT = 2;

    // Stands both for a cell beyond the edge and for a box that is not there.
    private static final int NO_CELL = 16;
    private static final int BOX_CELLS = 17;

    // A state is one number for the pusher and both boxes, so that the searches
    // can mark it in an array and undo can bring it back whole.
    private static final int STATES = CELLS * BOX_CELLS * BOX_CELLS;
    private static final int NO_STATE = -1;

    private static final int KEPT_MOVES = 20;

    private final int[] kinds = new int[CELLS];
    private int state;
    private int pushCount;

    private final int[] keptDirections = new int[KEPT_MOVES];
    private final int[] keptStates = new int[KEPT_MOVES];
    private int kept;

    private final boolean[] seen = new boolean[STATES];
    private final int[] queue = new int[STATES];
    private int found;

    public BoxPusher() {
        state = stateOf(0, NO_CELL, NO_CELL);
    }

    public int cell(int cell, int kind) {
        if (!isCell(cell)) {
            return BAD_CELL;
        }
        if (kind < FLOOR || kind > GOAL) {
            return BAD_KIND;
        }
        if (kind == WALL && (isBoxOn(cell) || pusherOf(state) == cell)) {
            return TAKEN;
        }
        int old = kinds[cell];
        kinds[cell] = kind;
        forgetMoves();
        return old;
    }

    public int box(int cell, boolean on) {
        if (!isCell(cell)) {
            return BAD_CELL;
        }
        return on ? putBox(cell) : takeBox(cell);
    }

    public int place(int cell) {
        if (!isCell(cell)) {
            return BAD_CELL;
        }
        if (kinds[cell] == WALL || isBoxOn(cell)) {
            return TAKEN;
        }
        int old = pusherOf(state);
        int first = firstBoxOf(state);
        int second = secondBoxOf(state);
        state = stateOf(cell, first, second);
        forgetMoves();
        return old;
    }

    public int move(int direction) {
        if (direction < 0 || direction >= DIRECTIONS) {
            return BAD_KIND;
        }
        int next = stateAfter(state, direction);
        if (next == NO_STATE) {
            return BLOCKED;
        }
        int pushed = isPush(state, next) ? 1 : 0;
        keepMove(direction);
        state = next;
        pushCount += pushed;
        return pushed;
    }

    public int undo() {
        if (kept <= 0 || kept > KEPT_MOVES) {
            return NONE;
        }
        kept--;
        int before = keptStates[kept];
        if (isPush(before, state)) {
            pushCount--;
        }
        state = before;
        return keptDirections[kept];
    }

    public boolean done() {
        return isDone(state);
    }

    public int leastMoves() {
        searchFrom(state);
        return movesUntilDone();
    }

    // A level holds all that a number of pushes can come to: it is walked through
    // to its end before the first push of the next one, so no state comes too late.
    public int leastPushes() {
        searchFrom(state);
        int levelStart = 0;
        for (int count = 0; count < STATES && levelStart < found; count++) {
            reachByWalkingSince(levelStart);
            int levelEnd = found;
            for (int i = levelStart; i < levelEnd; i++) {
                if (isDone(queue[i])) {
                    return count;
                }
                reachByMoves(queue[i], true);
            }
            levelStart = levelEnd;
        }
        return NONE;
    }

    public int bestMove() {
        searchFrom(state);
        int least = movesUntilDone();
        if (least == NONE || least == 0) {
            return NONE;
        }
        for (int direction = 0; direction < DIRECTIONS; direction++) {
            int next = stateAfter(state, direction);
            if (next != NO_STATE) {
                searchFrom(next);
                if (movesUntilDone() == least - 1) {
                    return direction;
                }
            }
        }
        return NONE;
    }

    public boolean dead(int cell) {
        if (!isCell(cell) || kinds[cell] != FLOOR) {
            return false;
        }
        clearSearch();
        for (int start = 0; start < CELLS; start++) {
            if (start != cell && kinds[start] != WALL) {
                int alone = stateOf(start, cell, NO_CELL);
                reach(alone);
            }
        }
        return movesUntilDone() == NONE;
    }

    public int region() {
        searchFrom(state);
        reachByWalkingSince(0);
        return found;
    }

    public boolean hasBox(int cell) {
        return isCell(cell) && isBoxOn(cell);
    }

    public int pusher() {
        return pusherOf(state);
    }

    public int pushes() {
        return pushCount;
    }

    private static boolean isCell(int cell) {
        return cell >= 0 && cell < CELLS;
    }

    private static int stateOf(int pusherCell, int first, int second) {
        return (first * BOX_CELLS + second) * CELLS + pusherCell;
    }

    private static int pusherOf(int of) {
        return of % CELLS;
    }

    private static int firstBoxOf(int of) {
        return of / CELLS / BOX_CELLS;
    }

    private static int secondBoxOf(int of) {
        return of / CELLS % BOX_CELLS;
    }

    // The pusher's part of a state is the lowest, so what is above it tells the boxes.
    private static boolean isPush(int before, int after) {
        return before / CELLS != after / CELLS;
    }

    private boolean isBoxOn(int cell) {
        return firstBoxOf(state) == cell || secondBoxOf(state) == cell;
    }

    private int putBox(int cell) {
        int at = pusherOf(state);
        int first = firstBoxOf(state);
        int second = secondBoxOf(state);
        if (kinds[cell] == WALL || at == cell || first == cell || second == cell) {
            return TAKEN;
        }
        if (first != NO_CELL && second != NO_CELL) {
            return FULL;
        }
        if (first == NO_CELL) {
            first = cell;
        } else {
            second = cell;
        }
        state = stateOf(at, first, second);
        forgetMoves();
        return boxCount();
    }

    private int takeBox(int cell) {
        int at = pusherOf(state);
        int first = firstBoxOf(state);
        int second = secondBoxOf(state);
        if (first != cell && second != cell) {
            return NONE;
        }
        if (first == cell) {
            first = NO_CELL;
        } else {
            second = NO_CELL;
        }
        state = stateOf(at, first, second);
        forgetMoves();
        return boxCount();
    }

    private int boxCount() {
        int count = 0;
        if (firstBoxOf(state) != NO_CELL) {
            count++;
        }
        if (secondBoxOf(state) != NO_CELL) {
            count++;
        }
        return count;
    }

    private void forgetMoves() {
        kept = 0;
        pushCount = 0;
    }

    private void keepMove(int direction) {
        if (kept >= KEPT_MOVES) {
            dropOldestMove();
        }
        keptDirections[kept] = direction;
        keptStates[kept] = state;
        kept++;
    }

    private void dropOldestMove() {
        for (int i = 1; i < KEPT_MOVES; i++) {
            keptDirections[i - 1] = keptDirections[i];
            keptStates[i - 1] = keptStates[i];
        }
        kept = KEPT_MOVES - 1;
    }

    private static int neighbour(int cell, int direction) {
        int row = cell / WIDTH;
        int column = cell % WIDTH;
        if (direction == UP) {
            return row > 0 ? cell - WIDTH : NO_CELL;
        }
        if (direction == DOWN) {
            return row < WIDTH - 1 ? cell + WIDTH : NO_CELL;
        }
        if (direction == LEFT) {
            return column > 0 ? cell - 1 : NO_CELL;
        }
        return column < WIDTH - 1 ? cell + 1 : NO_CELL;
    }

    private boolean isOpen(int cell) {
        return cell >= 0 && cell < CELLS && kinds[cell] != WALL;
    }

    private int stateAfter(int before, int direction) {
        int at = pusherOf(before);
        int first = firstBoxOf(before);
        int second = secondBoxOf(before);
        int to = neighbour(at, direction);
        if (!isOpen(to)) {
            return NO_STATE;
        }
        if (to != first && to != second) {
            return stateOf(to, first, second);
        }
        int behind = neighbour(to, direction);
        if (!isOpen(behind) || behind == first || behind == second) {
            return NO_STATE;
        }
        if (to == first) {
            return stateOf(to, behind, second);
        }
        return stateOf(to, first, behind);
    }

    private boolean isDone(int of) {
        int first = firstBoxOf(of);
        int second = secondBoxOf(of);
        return isHome(first) && isHome(second);
    }

    // A box that is not there keeps no store from being done.
    private boolean isHome(int boxCell) {
        return !isCell(boxCell) || kinds[boxCell] == GOAL;
    }

    private void clearSearch() {
        for (int i = 0; i < STATES; i++) {
            seen[i] = false;
        }
        found = 0;
    }

    private void searchFrom(int start) {
        clearSearch();
        reach(start);
    }

    private void reach(int next) {
        if (next < 0 || next >= STATES || found >= STATES) {
            return;
        }
        if (!seen[next]) {
            seen[next] = true;
            queue[found] = next;
            found++;
        }
    }

    private void reachByMoves(int before, boolean pushing) {
        for (int direction = 0; direction < DIRECTIONS; direction++) {
            int next = stateAfter(before, direction);
            if (next != NO_STATE && isPush(before, next) == pushing) {
                reach(next);
            }
        }
    }

    private void reachByWalkingSince(int levelStart) {
        for (int i = levelStart; i < found && i < STATES; i++) {
            reachByMoves(queue[i], false);
        }
    }

    // Begins at whatever has been reached, which for dead is more than one state.
    private int movesUntilDone() {
        int levelStart = 0;
        for (int moves = 0; moves < STATES && levelStart < found; moves++) {
            int levelEnd = found;
            for (int i = levelStart; i < levelEnd; i++) {
                if (isDone(queue[i])) {
                    return moves;
                }
                reachByMoves(queue[i], false);
                reachByMoves(queue[i], true);
            }
            levelStart = levelEnd;
        }
        return NONE;
    }
}
