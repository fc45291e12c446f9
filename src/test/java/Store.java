/** Makes stores from drawings, and reads all that can be known of one. */
final class Store {
    /** What is no cell; the large ones would be cells if they were cut to a byte or a short. */
    static final int[] NO_CELLS = {-1, 16, 17, -16, 256, 65536 + 5, Integer.MIN_VALUE, Integer.MAX_VALUE};

    private Store() { }

    /** Four rows: - floor, # wall, . goal, $ box, * box on a goal, @ pusher, + pusher on a goal. */
    static BoxPusher drawn(String first, String second, String third, String fourth) {
        String cells = first + second + third + fourth;
        if (cells.length() != 16) {
            throw new IllegalArgumentException("no four rows of four cells: " + cells);
        }
        BoxPusher store = new BoxPusher();
        for (int cell = 0; cell < 16; cell++) {
            if ("@+".indexOf(cells.charAt(cell)) >= 0) {
                store.place(cell);
            }
        }
        for (int cell = 0; cell < 16; cell++) {
            char mark = cells.charAt(cell);
            if (mark == '#') {
                store.cell(cell, BoxPusher.WALL);
            }
            if (".*+".indexOf(mark) >= 0) {
                store.cell(cell, BoxPusher.GOAL);
            }
            if ("$*".indexOf(mark) >= 0) {
                store.box(cell, true);
            }
        }
        return store;
    }

    static void moveAll(BoxPusher store, int... directions) {
        for (int direction : directions) {
            store.move(direction);
        }
    }

    /** The cells with boxes, the pusher's cell and the pushes, such as "[1, 6] 5 0". */
    static String stand(BoxPusher store) {
        String boxes = "";
        for (int cell = 0; cell < 16; cell++) {
            if (store.hasBox(cell)) {
                boxes += (boxes.isEmpty() ? "" : ", ") + cell;
            }
        }
        return "[" + boxes + "] " + store.pusher() + " " + store.pushes();
    }

    /** All that can be known of the store: it takes back every move and changes every kind to tell. */
    static String whole(BoxPusher store) {
        StringBuilder all = new StringBuilder(stand(store));
        all.append(" done ").append(store.done());
        all.append(" least ").append(store.leastMoves()).append(' ').append(store.leastPushes());
        all.append(" best ").append(store.bestMove());
        all.append(" region ").append(store.region());
        all.append(" dead");
        for (int cell = 0; cell < 16; cell++) {
            all.append(store.dead(cell) ? " 1" : " 0");
        }
        all.append(" undo");
        for (int i = 0; i < 22; i++) {
            all.append(' ').append(store.undo()).append('>').append(store.pusher()).append('/').append(store.pushes());
        }
        all.append(" then ").append(stand(store));
        all.append(" kinds");
        for (int cell = 0; cell < 16; cell++) {
            all.append(' ').append(store.cell(cell, BoxPusher.GOAL));
        }
        return all.toString();
    }
}
