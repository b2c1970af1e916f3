/** The best ORDER found by asking for each of them, the least as digits first. */
final class Orders {
    private final Fresh fresh;
    private final int play;
    private final int wish;
    private final int size;
    private int order = Edge.NONE;
    private int least = Edge.NONE;

    private Orders(Fresh fresh, int play, int wish) {
        this.fresh = fresh;
        this.play = play;
        this.wish = wish;
        size = fresh.floor().cue(play, Edge.NONE, 0);
    }

    /** The ORDER and what it costs, of those whose first CUES are as in the BOOK. */
    static int[] best(Fresh fresh, int play, int wish, int fixed) {
        Orders orders = new Orders(fresh, play, wish);
        int digits = 0;
        for (int cue = 0; cue < fixed; cue++) {
            digits = 10 * digits + cue;
        }
        orders.tryAll(fixed, (1 << fixed) - 1, digits);
        return new int[] {orders.order, orders.least};
    }

    private void tryAll(int depth, int some, int digits) {
        if (depth == size) {
            int cost = fresh.floor().order(play, digits, wish);
            if (cost != Edge.NONE && (least == Edge.NONE || cost < least)) {
                least = cost;
                order = digits;
            }
            return;
        }
        for (int cue = 0; cue < size; cue++) {
            if ((some >> cue & 1) == 0) {
                tryAll(depth + 1, some | 1 << cue, 10 * digits + cue);
            }
        }
    }
}
