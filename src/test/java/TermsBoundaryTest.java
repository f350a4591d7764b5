/** Each sentence of the section "Terms" that names a boundary case of the graph, the plan or a step. */
public final class TermsBoundaryTest {
    private static final int OUT = State.OUT, IN = State.IN, BOTH = State.BOTH, MAYBE = State.MAYBE;
    private static final int HAS = State.HAS, AWAY = State.AWAY, HOME = State.HOME, ONE = State.ONE;
    private static final int MIN = State.MIN, MAX = State.MAX;
    private static final Checks c = new Checks();

    public static void main(String[] args) {
        oneWalkerAtEachStart();
        noStartNoWalkerWhateverTheStep();
        withoutEdgesOnlyMaybeKeepsWalkers();
        label2FitsBothLabels();
        labels0And1FitOneLabel();
        edgesWithBothLabelsBringTwoWalkers();
        edgesAreFollowedInTheirOwnDirection();
        edgesOfTheFirstAndTheLastVertex();
        bothBringsOneForEachEdge();
        maybeStaysWithNoWayOut();
        maybeGoesWithOneWayOut();
        maybeLooksAtFittingLabelsAlone();
        maybeIsAskedForEachWalker();
        hasKeepsFromTheNumberOn();
        hasZeroKeepsAll();
        hasNineKeepsNinesAlone();
        hasLooksAtTheVertexNotTheStart();
        awayIsEmptyAtTheStarts();
        homeKeepsAllAtTheStarts();
        awayAndHomeShareTheWalkers();
        theNumberOfAwayHomeAndOneIsNotUsed();
        oneKeepsALoneWalker();
        oneKeepsOneOfTheSameStart();
        oneKeepsTheLeastStart();
        theLeastStartMayBeTheLastVertex();
        oneOfNoneIsNone();
        noStepsLeaveTheStarts();
        sixStepsAreDoneByAllWalkers();
        c.end();
    }

    private static WalkerPlan graph(int[]... edges) {
        WalkerPlan x = new WalkerPlan();
        for (int[] e : edges) {
            x.join(e[0], e[1], e[2]);
        }
        return x;
    }

    private static int[] edge(int a, int b, int l) {
        return new int[] {a, b, l};
    }

    /** Asks where the walkers from a set are after one step, and leaves the plan empty. */
    private static void step(WalkerPlan x, int starts, int kind, int n, int... counts) {
        String when = " after step " + kind + " " + n + " from " + starts;
        x.from(starts);
        x.add(kind, n);
        int all = 0;
        for (int v = 0; v < counts.length; v++) {
            c.due("at(" + v + ")" + when, x.at(v), counts[v]);
            all += counts[v];
        }
        c.due("walkers()" + when, x.walkers(), all);
        x.drop();
    }

    private static void oneWalkerAtEachStart() {
        c.part("terms: at first there is one walker at each vertex of the starts");
        for (int set : new int[] {0, 1, 128, 129, 254, 127, 255}) {
            WalkerPlan x = new WalkerPlan();
            x.from(set);
            for (int s = 0; s <= 7; s++) {
                for (int v = 0; v <= 7; v++) {
                    int due = s == v ? set >> v & 1 : 0;
                    c.due("between(" + s + ", " + v + ") from " + set, x.between(s, v), due);
                }
            }
            c.due("after(0) from " + set, x.after(0), Integer.bitCount(set));
        }
    }

    private static void noStartNoWalkerWhateverTheStep() {
        c.part("terms: no starts");
        WalkerPlan x = State.FULL.make();
        for (int k = 0; k < 6; k++) {
            x.drop();
        }
        for (int kind = OUT; kind <= ONE; kind++) {
            step(x, 0, kind, 0, 0, 0, 0, 0, 0, 0, 0, 0);
        }
    }

    private static void withoutEdgesOnlyMaybeKeepsWalkers() {
        c.part("terms: no edges");
        for (int l = 0; l <= 2; l++) {
            WalkerPlan x = new WalkerPlan();
            step(x, 255, OUT, l, 0, 0, 0, 0, 0, 0, 0, 0);
            step(x, 255, IN, l, 0, 0, 0, 0, 0, 0, 0, 0);
            step(x, 255, BOTH, l, 0, 0, 0, 0, 0, 0, 0, 0);
            step(x, 255, MAYBE, l, 1, 1, 1, 1, 1, 1, 1, 1);
        }
    }

    private static void label2FitsBothLabels() {
        c.part("terms: label 2 of a step");
        WalkerPlan x = graph(edge(0, 1, 0), edge(0, 2, 1));
        step(x, 1, OUT, 2, 0, 1, 1);
        step(x, 6, IN, 2, 2, 0, 0);
        step(x, 7, BOTH, 2, 2, 1, 1);
        step(x, 1, MAYBE, 2, 0, 1, 1);
    }

    private static void labels0And1FitOneLabel() {
        c.part("terms: labels 0 and 1 of a step");
        WalkerPlan x = graph(edge(0, 1, 0), edge(0, 2, 1));
        step(x, 1, OUT, 0, 0, 1, 0);
        step(x, 1, OUT, 1, 0, 0, 1);
        step(x, 2, IN, 0, 1, 0, 0);
        step(x, 2, IN, 1, 0, 0, 0);
        step(x, 4, IN, 0, 0, 0, 0);
        step(x, 4, IN, 1, 1, 0, 0);
        step(x, 7, BOTH, 0, 1, 1, 0);
        step(x, 7, BOTH, 1, 1, 0, 1);
        step(x, 1, MAYBE, 0, 0, 1, 0);
        step(x, 1, MAYBE, 1, 0, 0, 1);
    }

    private static void edgesWithBothLabelsBringTwoWalkers() {
        c.part("terms: two edges that differ in the label alone");
        WalkerPlan x = graph(edge(0, 1, 0), edge(0, 1, 1));
        step(x, 1, OUT, 2, 0, 2);
        step(x, 2, IN, 2, 2, 0);
        step(x, 1, BOTH, 2, 0, 2);
        step(x, 1, MAYBE, 2, 0, 2);
        for (int l = 0; l <= 1; l++) {
            step(x, 1, OUT, l, 0, 1);
            step(x, 2, IN, l, 1, 0);
            step(x, 1, MAYBE, l, 0, 1);
        }
    }

    private static void edgesAreFollowedInTheirOwnDirection() {
        c.part("terms: an edge begins at one vertex and ends at another");
        WalkerPlan x = graph(edge(3, 2, 0));
        step(x, 8, OUT, 0, 0, 0, 1, 0);
        step(x, 4, OUT, 0, 0, 0, 0, 0);
        step(x, 4, IN, 0, 0, 0, 0, 1);
        step(x, 8, IN, 0, 0, 0, 0, 0);
        step(x, 12, BOTH, 0, 0, 0, 1, 1);
        step(x, 12, MAYBE, 0, 0, 0, 2, 0);
    }

    private static void edgesOfTheFirstAndTheLastVertex() {
        c.part("terms: vertices 0 and 7");
        WalkerPlan x = graph(edge(0, 7, 1), edge(7, 0, 0));
        step(x, 1, OUT, 1, 0, 0, 0, 0, 0, 0, 0, 1);
        step(x, 128, OUT, 0, 1, 0, 0, 0, 0, 0, 0, 0);
        step(x, 129, OUT, 2, 1, 0, 0, 0, 0, 0, 0, 1);
        step(x, 129, IN, 2, 1, 0, 0, 0, 0, 0, 0, 1);
        step(x, 129, MAYBE, 0, 2, 0, 0, 0, 0, 0, 0, 0);
    }

    private static void bothBringsOneForEachEdge() {
        c.part("terms: BOTH where an edge leads there and one back");
        WalkerPlan x = graph(edge(0, 1, 0), edge(1, 0, 0));
        step(x, 1, BOTH, 0, 0, 2);
        step(x, 1, BOTH, 1, 0, 0);
        x.join(0, 1, 1);
        x.join(1, 0, 1);
        step(x, 1, BOTH, 2, 0, 4);
        step(x, 1, BOTH, 1, 0, 2);
    }

    private static void maybeStaysWithNoWayOut() {
        c.part("terms: MAYBE where no edge begins");
        WalkerPlan x = graph(edge(0, 1, 0), edge(2, 1, 1));
        step(x, 2, MAYBE, 2, 0, 1, 0);
        step(x, 8, MAYBE, 2, 0, 0, 0, 1);
    }

    private static void maybeGoesWithOneWayOut() {
        c.part("terms: MAYBE where one edge begins");
        for (int l = 0; l <= 1; l++) {
            WalkerPlan x = graph(edge(0, 1, l));
            step(x, 1, MAYBE, l, 0, 1);
            step(x, 1, MAYBE, 2, 0, 1);
        }
    }

    private static void maybeLooksAtFittingLabelsAlone() {
        c.part("terms: MAYBE where no edge with a fitting label begins");
        for (int l = 0; l <= 1; l++) {
            WalkerPlan x = graph(edge(0, 1, l));
            step(x, 1, MAYBE, 1 - l, 1, 0);
        }
    }

    private static void maybeIsAskedForEachWalker() {
        c.part("terms: MAYBE where some go and some stay");
        WalkerPlan x = graph(edge(0, 1, 0), edge(0, 2, 0), edge(3, 2, 1));
        step(x, 15, MAYBE, 0, 0, 2, 2, 1);
        step(x, 15, MAYBE, 1, 1, 1, 2, 0);
        step(x, 15, MAYBE, 2, 0, 2, 3, 0);
    }

    private static void hasKeepsFromTheNumberOn() {
        c.part("terms: HAS n where the number is n - 1, n or n + 1");
        for (int n = 1; n <= 8; n++) {
            WalkerPlan x = new WalkerPlan();
            x.mark(0, n - 1);
            x.mark(1, n);
            x.mark(2, n + 1);
            step(x, 7, HAS, n, 0, 1, 1);
        }
    }

    private static void hasZeroKeepsAll() {
        c.part("terms: HAS 0");
        WalkerPlan x = new WalkerPlan();
        x.mark(1, 1);
        x.mark(7, 9);
        step(x, 255, HAS, 0, 1, 1, 1, 1, 1, 1, 1, 1);
    }

    private static void hasNineKeepsNinesAlone() {
        c.part("terms: HAS 9");
        WalkerPlan x = new WalkerPlan();
        x.mark(0, 9);
        x.mark(1, 8);
        x.mark(6, 8);
        x.mark(7, 9);
        step(x, 255, HAS, 9, 1, 0, 0, 0, 0, 0, 0, 1);
    }

    private static void hasLooksAtTheVertexNotTheStart() {
        c.part("terms: HAS looks at the number of the walker's vertex");
        WalkerPlan x = graph(edge(0, 7, 0), edge(1, 6, 0));
        x.mark(0, 9);
        x.mark(6, 9);
        x.from(3);
        x.add(OUT, 0);
        x.add(HAS, 9);
        c.due("reached()", x.reached(), 1 << 6);
    }

    private static void awayIsEmptyAtTheStarts() {
        c.part("terms: AWAY where each walker is at its start");
        step(new WalkerPlan(), 255, AWAY, 0, 0, 0, 0, 0, 0, 0, 0, 0);
    }

    private static void homeKeepsAllAtTheStarts() {
        c.part("terms: HOME where each walker is at its start");
        step(new WalkerPlan(), 255, HOME, 0, 1, 1, 1, 1, 1, 1, 1, 1);
    }

    private static void awayAndHomeShareTheWalkers() {
        c.part("terms: AWAY and HOME look at each walker's own start");
        for (int kind = AWAY; kind <= HOME; kind++) {
            WalkerPlan all = State.FULL.make();
            all.drop();
            WalkerPlan x = State.FULL.make();
            x.drop();
            x.add(kind, 0);
            for (int s = 0; s <= 7; s++) {
                for (int v = 0; v <= 7; v++) {
                    boolean stays = (s == v) == (kind == HOME);
                    int due = stays ? all.between(s, v) : 0;
                    c.due("between(" + s + ", " + v + ") after step " + kind, x.between(s, v), due);
                }
            }
        }
    }

    private static void theNumberOfAwayHomeAndOneIsNotUsed() {
        c.part("terms: the step's number is not used and counts as 0");
        for (int n : new int[] {MIN, -1, 0, 1, 2, 3, 9, 10, MAX}) {
            // After MAYBE 2 one walker from 0, one from 1 and two from 2 are at vertex 1.
            WalkerPlan x = graph(edge(0, 1, 0), edge(2, 1, 0), edge(2, 1, 1));
            x.from(7);
            x.add(MAYBE, 2);
            secondStep(x, AWAY, n, 3, 1 << 0 | 1 << 2);
            secondStep(x, HOME, n, 1, 1 << 1);
            secondStep(x, ONE, n, 1, 1 << 0);
        }
    }

    private static void secondStep(WalkerPlan x, int kind, int n, int walkers, int starts) {
        String when = " after step " + kind + " " + n;
        c.due("add" + when, x.add(kind, n), 2);
        c.due("at(1)" + when, x.at(1), walkers);
        c.due("walkers()" + when, x.walkers(), walkers);
        c.due("startsAt(1)" + when, x.startsAt(1), starts);
        x.drop();
    }

    private static void oneKeepsALoneWalker() {
        c.part("terms: ONE where one walker is at each vertex");
        WalkerPlan x = new WalkerPlan();
        step(x, 255, ONE, 0, 1, 1, 1, 1, 1, 1, 1, 1);
        x.add(ONE, 0);
        for (int v = 0; v <= 7; v++) {
            c.due("startsAt(" + v + ")", x.startsAt(v), 1 << v);
        }
    }

    private static void oneKeepsOneOfTheSameStart() {
        c.part("terms: ONE where all walkers at one vertex have the same start");
        WalkerPlan x = graph(edge(5, 4, 0), edge(5, 4, 1));
        x.from(1 << 5);
        x.add(OUT, 2);
        c.due("between(5, 4) before", x.between(5, 4), 2);
        x.add(ONE, 0);
        c.due("between(5, 4)", x.between(5, 4), 1);
        c.due("walkers()", x.walkers(), 1);
    }

    private static void oneKeepsTheLeastStart() {
        c.part("terms: ONE keeps one with the least start");
        for (int set = 1; set <= 255; set++) {
            WalkerPlan x = State.FULL.make();
            x.drop();
            x.add(ONE, 0);
            x.from(set);
            int least = Integer.numberOfTrailingZeros(set);
            WalkerPlan before = State.FULL.make();
            before.drop();
            before.from(set);
            for (int v = 0; v <= 7; v++) {
                c.due("startsAt(" + v + ") from " + set, x.startsAt(v), Integer.lowestOneBit(before.startsAt(v)));
                c.due("at(" + v + ") from " + set, x.at(v), before.at(v) > 0 ? 1 : 0);
            }
            c.due("between(least, 1) from " + set, x.between(least, 1), 1);
        }
    }

    private static void theLeastStartMayBeTheLastVertex() {
        c.part("terms: ONE where the only start is 7, and where it is 0 or 7");
        WalkerPlan x = graph(edge(0, 3, 0), edge(7, 3, 0), edge(7, 3, 1));
        x.add(OUT, 2);
        x.add(ONE, 0);
        x.from(128);
        c.due("startsAt(3) from 7", x.startsAt(3), 128);
        c.due("at(3) from 7", x.at(3), 1);
        x.from(129);
        c.due("startsAt(3) from 0 and 7", x.startsAt(3), 1);
        c.due("at(3) from 0 and 7", x.at(3), 1);
    }

    private static void oneOfNoneIsNone() {
        c.part("terms: ONE where there is no walker");
        WalkerPlan x = graph(edge(0, 1, 0));
        x.from(1);
        x.add(OUT, 1);
        x.add(ONE, 0);
        c.due("walkers()", x.walkers(), 0);
        c.due("reached()", x.reached(), 0);
    }

    private static void noStepsLeaveTheStarts() {
        c.part("terms: a plan without steps");
        WalkerPlan x = State.FULL.make();
        for (int k = 0; k < 6; k++) {
            x.drop();
        }
        for (int v = 0; v <= 7; v++) {
            c.due("at(" + v + ")", x.at(v), 1);
            c.due("startsAt(" + v + ")", x.startsAt(v), 1 << v);
        }
        c.due("after(0)", x.after(0), x.walkers());
    }

    private static void sixStepsAreDoneByAllWalkers() {
        c.part("terms: a plan of six steps, one after the other");
        WalkerPlan x = graph(edge(0, 1, 0), edge(1, 2, 0), edge(2, 3, 0), edge(3, 4, 0), edge(4, 5, 0), edge(5, 6, 0),
            edge(6, 7, 0));
        x.from(3);
        for (int k = 1; k <= 6; k++) {
            x.add(OUT, 0);
            c.due("between(0, k) after " + k, x.between(0, k), 1);
            c.due("between(1, k + 1) after " + k, x.between(1, k + 1), 1);
            c.due("reached() after " + k, x.reached(), 3 << k);
        }
        for (int k = 0; k <= 6; k++) {
            c.due("after(" + k + ")", x.after(k), 2);
        }
    }
}
