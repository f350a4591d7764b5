/** Objects at both ends of what the document allows, and one between them. */
enum State {
    /** No number but 0, no edge, no step, no start. */
    NEW,
    /** A little of everything, with room for more. Each step of its plan changes where walkers are. */
    MIDDLE,
    /** Ten edges, six steps, eight starts, each number 9, and walkers from each start at each vertex. */
    FULL;

    static final int OUT = 0, IN = 1, BOTH = 2, MAYBE = 3, HAS = 4, AWAY = 5, HOME = 6, ONE = 7;
    static final int NONE = -1, PLAN_FULL = -2;
    static final int MIN = Integer.MIN_VALUE, MAX = Integer.MAX_VALUE;

    private static final int[][] MIDDLE_EDGES = {{0, 1, 0}, {1, 2, 1}, {2, 0, 0}, {6, 7, 1}, {7, 3, 0}};
    /** Edges from 0 to all, and three triangles: from each vertex to each there is a way of six edges. */
    private static final int[][] FULL_EDGES = {
        {0, 1, 0}, {0, 2, 1}, {0, 3, 0}, {0, 4, 1}, {0, 5, 0}, {0, 6, 1}, {0, 7, 0}, {1, 2, 0}, {3, 4, 1}, {5, 6, 0}};
    private static final int[][] MIDDLE_STEPS = {{MAYBE, 2}, {HAS, 3}, {BOTH, 1}};

    int[][] edges() {
        return this == NEW ? new int[0][] : this == MIDDLE ? MIDDLE_EDGES : FULL_EDGES;
    }

    int steps() {
        return this == NEW ? 0 : this == MIDDLE ? MIDDLE_STEPS.length : 6;
    }

    int starts() {
        return this == NEW ? 0 : this == MIDDLE ? 0b11000111 : 255;
    }

    int number(int v) {
        return this == NEW ? 0 : this == MIDDLE ? v * 3 % 10 : 9;
    }

    WalkerPlan make() {
        WalkerPlan x = new WalkerPlan();
        if (this == NEW) return x;
        for (int v = 0; v < 8; v++) {
            x.mark(v, number(v));
        }
        for (int[] e : edges()) {
            x.join(e[0], e[1], e[2]);
        }
        for (int k = 0; k < steps(); k++) {
            int[] step = this == MIDDLE ? MIDDLE_STEPS[k] : new int[] {BOTH, 2};
            x.add(step[0], step[1]);
        }
        x.from(starts());
        return x;
    }

    /** Ints that are not 0 .. most: next to it, at both ends, and such as a mask or a product would take for a good one. */
    static int[] outside(int most) {
        return new int[] {-1, most + 1, MIN, MAX, MIN + 1, MAX - 1, most + 2, -most - 1, -8, -256, 256, 1 << 16, 1 << 29, -1 << 29};
    }
}
