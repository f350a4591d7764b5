import java.util.ArrayList;
import java.util.List;

/**
 * Compares runs of calls with a model that moves every walker by itself, read word by word from
 * the document. The runs come from a fixed row of numbers, so each run of the test is the same.
 */
public final class ModelTest {
    private static final int RUNS = 1500;
    private static final int CALLS = 120;
    private static final Checks c = new Checks();
    private static long seed = 20261115L;

    private static final class Model {
        final int[] numbers = new int[8];
        final List<int[]> edges = new ArrayList<>();
        final List<int[]> plan = new ArrayList<>();
        int starts = 0;

        boolean mark(int v, int n) {
            if (v < 0 || v > 7 || n < 0 || n > 9) return false;
            numbers[v] = n;
            return true;
        }

        boolean isEdge(int[] e, int a, int b, int l) {
            return e[0] == a && e[1] == b && e[2] == l;
        }

        boolean join(int a, int b, int l) {
            if (a == b || a < 0 || a > 7 || b < 0 || b > 7 || l < 0 || l > 1) return false;
            if (edges.size() == 10 || edges.stream().anyMatch(e -> isEdge(e, a, b, l))) return false;
            return edges.add(new int[] {a, b, l});
        }

        boolean cut(int a, int b, int l) {
            return edges.removeIf(e -> isEdge(e, a, b, l));
        }

        int add(int kind, int n) {
            if (kind < 0 || kind > 7) return -1;
            if (kind <= 3 && (n < 0 || n > 2)) return -1;
            if (kind == 4 && (n < 0 || n > 9)) return -1;
            if (plan.size() == 6) return -2;
            plan.add(new int[] {kind, n});
            return plan.size();
        }

        int drop() {
            if (plan.isEmpty()) return -1;
            plan.remove(plan.size() - 1);
            return plan.size();
        }

        boolean from(int set) {
            if (set < 0 || set > 255) return false;
            starts = set;
            return true;
        }

        /** Each walker is {start, vertex}. */
        List<int[]> walk(int steps) {
            List<int[]> walkers = new ArrayList<>();
            for (int v = 0; v < 8; v++) {
                if ((starts & 1 << v) != 0) walkers.add(new int[] {v, v});
            }
            for (int[] step : plan.subList(0, steps)) {
                walkers = step[0] == 7 ? one(walkers) : each(walkers, step[0], step[1]);
            }
            return walkers;
        }

        List<int[]> one(List<int[]> walkers) {
            int[][] kept = new int[8][];
            for (int[] w : walkers) {
                if (kept[w[1]] == null || w[0] < kept[w[1]][0]) kept[w[1]] = w;
            }
            List<int[]> left = new ArrayList<>();
            for (int[] w : kept) {
                if (w != null) left.add(w);
            }
            return left;
        }

        List<int[]> each(List<int[]> walkers, int kind, int n) {
            List<int[]> left = new ArrayList<>();
            for (int[] w : walkers) {
                int before = left.size();
                for (int[] e : edges) {
                    boolean fits = n == 2 || e[2] == n;
                    if (fits && e[0] == w[1] && (kind == 0 || kind == 2 || kind == 3)) left.add(new int[] {w[0], e[1]});
                    if (fits && e[1] == w[1] && (kind == 1 || kind == 2)) left.add(new int[] {w[0], e[0]});
                }
                boolean itself = kind == 3 && left.size() == before
                    || kind == 4 && numbers[w[1]] >= n
                    || kind == 5 && w[0] != w[1]
                    || kind == 6 && w[0] == w[1];
                if (itself) left.add(w);
            }
            return left;
        }

        int after(int k) {
            return k < 0 || k > plan.size() ? -1 : walk(k).size();
        }

        int diesAfter() {
            for (int k = 0; k <= plan.size(); k++) {
                if (walk(k).isEmpty()) return k;
            }
            return -1;
        }
    }

    private static int below(int bound) {
        seed = seed * 6364136223846793005L + 1442695040888963407L;
        return (int) ((seed >>> 33) % bound);
    }

    /** Mostly 0 .. most, at times a little or far outside. */
    private static int near(int most) {
        switch (below(24)) {
            case 0: return -1 - below(3);
            case 1: return most + 1 + below(3);
            case 2: return below(2) == 0 ? Integer.MIN_VALUE + below(9) : Integer.MAX_VALUE - below(9);
            default: return below(most + 1);
        }
    }

    private static void change(WalkerPlan x, Model m, int vertices) {
        int a = near(vertices - 1);
        int b = near(vertices - 1);
        int n = near(9);
        int l = near(1);
        switch (below(8)) {
            case 0:
                c.due("mark(" + a + ", " + n + ")", x.mark(a, n), m.mark(a, n));
                break;
            case 1:
            case 2:
            case 3:
                c.due("join(" + a + ", " + b + ", " + l + ")", x.join(a, b, l), m.join(a, b, l));
                break;
            case 4:
                c.due("cut(" + a + ", " + b + ", " + l + ")", x.cut(a, b, l), m.cut(a, b, l));
                break;
            case 5:
                int kind = near(7);
                int value = kind == 4 ? n : near(2);
                c.due("add(" + kind + ", " + value + ")", x.add(kind, value), m.add(kind, value));
                break;
            case 6:
                if (below(3) == 0) c.due("drop()", x.drop(), m.drop());
                break;
            default:
                int set = near(255);
                c.due("from(" + set + ")", x.from(set), m.from(set));
                break;
        }
    }

    private static void compareAll(WalkerPlan x, Model m) {
        int[][] count = new int[8][8];
        List<int[]> walkers = m.walk(m.plan.size());
        for (int[] w : walkers) {
            count[w[0]][w[1]]++;
        }
        int reached = 0;
        for (int v = 0; v < 8; v++) {
            int at = 0;
            int starts = 0;
            for (int s = 0; s < 8; s++) {
                c.due("between(" + s + ", " + v + ")", x.between(s, v), count[s][v]);
                at += count[s][v];
                if (count[s][v] > 0) starts |= 1 << s;
            }
            c.due("at(" + v + ")", x.at(v), at);
            c.due("startsAt(" + v + ")", x.startsAt(v), starts);
            if (at > 0) reached |= 1 << v;
        }
        c.due("reached()", x.reached(), reached);
        c.due("walkers()", x.walkers(), walkers.size());
        c.due("diesAfter()", x.diesAfter(), m.diesAfter());
        c.due("edges()", x.edges(), m.edges.size());
        for (int k = -1; k <= 7; k++) {
            c.due("after(" + k + ")", x.after(k), m.after(k));
        }
    }

    public static void main(String[] args) {
        for (int run = 0; run < RUNS; run++) {
            WalkerPlan x = new WalkerPlan();
            Model m = new Model();
            // Few vertices make many walkers meet, and let edges stand twice.
            int vertices = 2 + run % 7;
            for (int call = 0; call < CALLS; call++) {
                c.part("run " + run + ", call " + call);
                change(x, m, vertices);
                // A look now and then keeps each object below its 512 calls.
                if (call % 40 == 39) compareAll(x, m);
            }
        }
        c.end();
    }
}
