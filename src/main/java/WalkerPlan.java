/** Sends walkers through a small graph, step by step of a plan, and counts where they are. */
public final class WalkerPlan {
    public static final int NONE = -1;
    public static final int FULL = -2;

    private static final int VERTICES = 8;
    private static final int GREATEST_NUMBER = 9;
    private static final int GREATEST_SET = 255;
    private static final int MOST_EDGES = 10;
    private static final int MOST_STEPS = 6;
    private static final int BOTH_LABELS = 2;
    private static final int PAIRS = 64;

    private static final int OUT = 0;
    private static final int IN = 1;
    private static final int BOTH = 2;
    private static final int MAYBE = 3;
    private static final int HAS = 4;
    private static final int AWAY = 5;
    private static final int HOME = 6;
    private static final int ONE = 7;

    private final int[] numbers = new int[VERTICES];

    private final int[] begins = new int[MOST_EDGES];
    private final int[] ends = new int[MOST_EDGES];
    private final int[] labels = new int[MOST_EDGES];
    private int edgeCount;

    private final int[] kinds = new int[MOST_STEPS];
    private final int[] values = new int[MOST_STEPS];
    private int stepCount;

    private int starts;

    // Walkers with the same start and vertex always fare alike, so a count for each
    // pair is enough: start * VERTICES + vertex. Every question fills these anew.
    private final int[] now = new int[PAIRS];
    private final int[] next = new int[PAIRS];

    public WalkerPlan() {
        edgeCount = 0;
        stepCount = 0;
        starts = 0;
    }

    public boolean mark(int v, int n) {
        if (!isVertex(v) || !isNumber(n)) {
            return false;
        }
        numbers[v] = n;
        return true;
    }

    public boolean join(int a, int b, int l) {
        if (a == b || !isVertex(a) || !isVertex(b) || l < 0 || l >= BOTH_LABELS) {
            return false;
        }
        if (edgeCount >= MOST_EDGES || findEdge(a, b, l) != NONE) {
            return false;
        }
        begins[edgeCount] = a;
        ends[edgeCount] = b;
        labels[edgeCount] = l;
        edgeCount++;
        return true;
    }

    public boolean cut(int a, int b, int l) {
        int e = findEdge(a, b, l);
        if (e == NONE) {
            return false;
        }
        // No answer depends on the order of the edges, so the last one may fill the gap.
        edgeCount--;
        begins[e] = begins[edgeCount];
        ends[e] = ends[edgeCount];
        labels[e] = labels[edgeCount];
        return true;
    }

    public int add(int kind, int n) {
        if (!isStep(kind, n)) {
            return NONE;
        }
        if (stepCount >= MOST_STEPS) {
            return FULL;
        }
        kinds[stepCount] = kind;
        values[stepCount] = kind <= HAS ? n : 0;
        stepCount++;
        return stepCount;
    }

    public int drop() {
        if (stepCount == 0) {
            return NONE;
        }
        stepCount--;
        return stepCount;
    }

    public boolean from(int set) {
        if (set < 0 || set > GREATEST_SET) {
            return false;
        }
        starts = set;
        return true;
    }

    public int at(int v) {
        if (!isVertex(v)) {
            return 0;
        }
        walk(stepCount);
        return countAt(v);
    }

    public int walkers() {
        walk(stepCount);
        return countAll();
    }

    public int after(int k) {
        if (k < 0 || k > stepCount) {
            return NONE;
        }
        walk(k);
        return countAll();
    }

    public int between(int s, int v) {
        if (!isVertex(s) || !isVertex(v)) {
            return 0;
        }
        walk(stepCount);
        return now[s * VERTICES + v];
    }

    public int reached() {
        walk(stepCount);
        int set = 0;
        for (int v = 0; v < VERTICES; v++) {
            if (countAt(v) > 0) {
                set |= 1 << v;
            }
        }
        return set;
    }

    public int startsAt(int v) {
        if (!isVertex(v)) {
            return 0;
        }
        walk(stepCount);
        int set = 0;
        for (int s = 0; s < VERTICES; s++) {
            if (now[s * VERTICES + v] > 0) {
                set |= 1 << s;
            }
        }
        return set;
    }

    public int diesAfter() {
        for (int k = 0; k <= stepCount; k++) {
            walk(k);
            if (countAll() == 0) {
                return k;
            }
        }
        return NONE;
    }

    public int edges() {
        return edgeCount;
    }

    private static boolean isVertex(int v) {
        return v >= 0 && v < VERTICES;
    }

    private static boolean isNumber(int n) {
        return n >= 0 && n <= GREATEST_NUMBER;
    }

    private static boolean isStep(int kind, int n) {
        switch (kind) {
            case OUT:
            case IN:
            case BOTH:
            case MAYBE:
                return n >= 0 && n <= BOTH_LABELS;
            case HAS:
                return isNumber(n);
            case AWAY:
            case HOME:
            case ONE:
                return true;
            default:
                return false;
        }
    }

    private int findEdge(int a, int b, int l) {
        for (int e = 0; e < edgeCount; e++) {
            if (begins[e] == a && ends[e] == b && labels[e] == l) {
                return e;
            }
        }
        return NONE;
    }

    private boolean fits(int e, int l) {
        return l == BOTH_LABELS || labels[e] == l;
    }

    private int countAt(int v) {
        int count = 0;
        for (int s = 0; s < VERTICES; s++) {
            count += now[s * VERTICES + v];
        }
        return count;
    }

    private int countAll() {
        int count = 0;
        for (int p = 0; p < PAIRS; p++) {
            count += now[p];
        }
        return count;
    }

    private void walk(int steps) {
        placeAtStarts();
        for (int i = 0; i < steps; i++) {
            doStep(kinds[i], values[i]);
        }
    }

    private void placeAtStarts() {
        for (int p = 0; p < PAIRS; p++) {
            now[p] = 0;
        }
        for (int s = 0; s < VERTICES; s++) {
            now[s * VERTICES + s] = (starts >> s) & 1;
        }
    }

    private void doStep(int kind, int n) {
        for (int p = 0; p < PAIRS; p++) {
            next[p] = 0;
        }
        switch (kind) {
            case OUT:
                sendOut(n);
                break;
            case IN:
                sendIn(n);
                break;
            case BOTH:
                sendOut(n);
                sendIn(n);
                break;
            case MAYBE:
                sendOut(n);
                keepWithoutWayOut(n);
                break;
            case HAS:
                keepWithNumber(n);
                break;
            case AWAY:
                keepAway();
                break;
            case HOME:
                keepHome();
                break;
            default:
                keepOneAtEachVertex();
                break;
        }
        for (int p = 0; p < PAIRS; p++) {
            now[p] = next[p];
        }
    }

    private void sendOut(int l) {
        for (int e = 0; e < edgeCount; e++) {
            if (fits(e, l)) {
                send(begins[e], ends[e]);
            }
        }
    }

    private void sendIn(int l) {
        for (int e = 0; e < edgeCount; e++) {
            if (fits(e, l)) {
                send(ends[e], begins[e]);
            }
        }
    }

    private void send(int a, int b) {
        for (int s = 0; s < VERTICES; s++) {
            next[s * VERTICES + b] += now[s * VERTICES + a];
        }
    }

    private void keepWithoutWayOut(int l) {
        int withWayOut = 0;
        for (int e = 0; e < edgeCount; e++) {
            if (fits(e, l)) {
                withWayOut |= 1 << begins[e];
            }
        }
        for (int v = 0; v < VERTICES; v++) {
            if ((withWayOut >> v & 1) == 0) {
                send(v, v);
            }
        }
    }

    private void keepWithNumber(int n) {
        for (int v = 0; v < VERTICES; v++) {
            if (numbers[v] >= n) {
                send(v, v);
            }
        }
    }

    private void keepAway() {
        for (int s = 0; s < VERTICES; s++) {
            for (int v = 0; v < VERTICES; v++) {
                if (s != v) {
                    next[s * VERTICES + v] = now[s * VERTICES + v];
                }
            }
        }
    }

    private void keepHome() {
        for (int s = 0; s < VERTICES; s++) {
            next[s * VERTICES + s] = now[s * VERTICES + s];
        }
    }

    private void keepOneAtEachVertex() {
        for (int v = 0; v < VERTICES; v++) {
            for (int s = 0; s < VERTICES; s++) {
                if (now[s * VERTICES + v] > 0) {
                    next[s * VERTICES + v] = 1;
                    break;
                }
            }
        }
    }
}
