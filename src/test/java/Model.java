import java.util.ArrayDeque;
import java.util.ArrayList;
import java.util.HashMap;
import java.util.HashSet;
import java.util.List;
import java.util.Map;
import java.util.PriorityQueue;
import java.util.Set;
import java.util.TreeSet;

/**
 * The document told a second time, by other means than the class uses: rows and columns in
 * place of cell numbers, sets of boxes, a list of all moves made, and Dijkstra's search.
 */
final class Model {
    private static final int[] ROW_STEP = {-1, 1, 0, 0};
    private static final int[] COLUMN_STEP = {0, 0, -1, 1};

    /** Where the pusher and the boxes stand. */
    private record Stand(int pusher, Set<Integer> boxes) { }

    private record Step(int direction, Stand before, boolean push) { }

    private record Cost(int cost, Stand stand) { }

    private final int[] kinds = new int[16];
    private Stand now = new Stand(0, Set.of());
    private final List<Step> made = new ArrayList<>();
    private int canTakeBack = 0;

    int cell(int cell, int kind) {
        if (outside(cell)) return BoxPusher.BAD_CELL;
        if (kind != 0 && kind != 1 && kind != 2) return BoxPusher.BAD_KIND;
        if (kind == BoxPusher.WALL && (hasBox(cell) || now.pusher == cell)) return BoxPusher.TAKEN;
        int old = kinds[cell];
        kinds[cell] = kind;
        forget();
        return old;
    }

    int box(int cell, boolean on) {
        if (outside(cell)) return BoxPusher.BAD_CELL;
        if (on && (kinds[cell] == BoxPusher.WALL || now.pusher == cell || hasBox(cell))) return BoxPusher.TAKEN;
        if (on && now.boxes.size() == 2) return BoxPusher.FULL;
        if (!on && !hasBox(cell)) return BoxPusher.NONE;
        Set<Integer> boxes = new TreeSet<>(now.boxes);
        if (on) boxes.add(cell);
        else boxes.remove(cell);
        now = new Stand(now.pusher, boxes);
        forget();
        return boxes.size();
    }

    int place(int cell) {
        if (outside(cell)) return BoxPusher.BAD_CELL;
        if (kinds[cell] == BoxPusher.WALL || hasBox(cell)) return BoxPusher.TAKEN;
        int old = now.pusher;
        now = new Stand(cell, now.boxes);
        forget();
        return old;
    }

    int move(int direction) {
        if (direction < 0 || direction > 3) return BoxPusher.BAD_KIND;
        Stand next = after(now, direction);
        if (next == null) return BoxPusher.BLOCKED;
        boolean push = !next.boxes.equals(now.boxes);
        made.add(new Step(direction, now, push));
        canTakeBack = Math.min(20, canTakeBack + 1);
        now = next;
        return push ? 1 : 0;
    }

    int undo() {
        if (canTakeBack == 0) return BoxPusher.NONE;
        canTakeBack--;
        Step last = made.remove(made.size() - 1);
        now = last.before;
        return last.direction;
    }

    boolean done() {
        return done(now);
    }

    int leastMoves() {
        return least(now, false);
    }

    int leastPushes() {
        return least(now, true);
    }

    int bestMove() {
        int least = leastMoves();
        if (least <= 0) return BoxPusher.NONE;
        for (int direction = 0; direction < 4; direction++) {
            Stand next = after(now, direction);
            if (next != null && least(next, false) == least - 1) return direction;
        }
        throw new IllegalStateException("a way without a first move");
    }

    boolean dead(int cell) {
        if (outside(cell) || kinds[cell] != BoxPusher.FLOOR) return false;
        for (int start = 0; start < 16; start++) {
            if (start != cell && kinds[start] != BoxPusher.WALL) {
                if (least(new Stand(start, Set.of(cell)), false) >= 0) return false;
            }
        }
        return true;
    }

    int region() {
        Set<Integer> come = new HashSet<>(Set.of(now.pusher));
        ArrayDeque<Integer> open = new ArrayDeque<>(come);
        while (!open.isEmpty()) {
            int from = open.pop();
            for (int direction = 0; direction < 4; direction++) {
                int to = next(from, direction);
                if (to >= 0 && kinds[to] != BoxPusher.WALL && !hasBox(to) && come.add(to)) open.push(to);
            }
        }
        return come.size();
    }

    boolean hasBox(int cell) {
        return now.boxes.contains(cell);
    }

    int pusher() {
        return now.pusher;
    }

    int pushes() {
        return (int) made.stream().filter(Step::push).count();
    }

    private void forget() {
        made.clear();
        canTakeBack = 0;
    }

    private static boolean outside(int cell) {
        return cell < 0 || cell > 15;
    }

    private static int next(int cell, int direction) {
        int row = cell / 4 + ROW_STEP[direction];
        int column = cell % 4 + COLUMN_STEP[direction];
        return row < 0 || row > 3 || column < 0 || column > 3 ? -1 : row * 4 + column;
    }

    private Stand after(Stand stand, int direction) {
        int to = next(stand.pusher, direction);
        if (to < 0 || kinds[to] == BoxPusher.WALL) return null;
        if (!stand.boxes.contains(to)) return new Stand(to, stand.boxes);
        int behind = next(to, direction);
        if (behind < 0 || kinds[behind] == BoxPusher.WALL || stand.boxes.contains(behind)) return null;
        Set<Integer> boxes = new TreeSet<>(stand.boxes);
        boxes.remove(to);
        boxes.add(behind);
        return new Stand(to, boxes);
    }

    private boolean done(Stand stand) {
        return stand.boxes.stream().allMatch(cell -> kinds[cell] == BoxPusher.GOAL);
    }

    private int least(Stand start, boolean pushesOnly) {
        Map<Stand, Integer> best = new HashMap<>();
        PriorityQueue<Cost> open = new PriorityQueue<>((a, b) -> Integer.compare(a.cost, b.cost));
        best.put(start, 0);
        open.add(new Cost(0, start));
        while (!open.isEmpty()) {
            Cost from = open.poll();
            if (from.cost > best.get(from.stand)) continue;
            if (done(from.stand)) return from.cost;
            for (int direction = 0; direction < 4; direction++) {
                Stand next = after(from.stand, direction);
                if (next == null) continue;
                int cost = from.cost + (!pushesOnly || !next.boxes.equals(from.stand.boxes) ? 1 : 0);
                Integer known = best.get(next);
                if (known == null || cost < known) {
                    best.put(next, cost);
                    open.add(new Cost(cost, next));
                }
            }
        }
        return BoxPusher.NONE;
    }
}
