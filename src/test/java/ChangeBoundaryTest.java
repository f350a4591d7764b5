import java.util.List;

/**
 * Each sentence of promises 1 to 7 that names a boundary case: the last good value and the first
 * that is not, both ends of int, the empty and the full state, and that a refused call changes nothing.
 */
public final class ChangeBoundaryTest {
    private static final int OUT = State.OUT, IN = State.IN, BOTH = State.BOTH, MAYBE = State.MAYBE;
    private static final int HAS = State.HAS, AWAY = State.AWAY, HOME = State.HOME, ONE = State.ONE;
    private static final int NONE = State.NONE, PLAN_FULL = State.PLAN_FULL;
    private static final int MIN = State.MIN, MAX = State.MAX;
    private static final Checks c = new Checks();

    private interface Call {
        int on(WalkerPlan x);
    }

    public static void main(String[] args) {
        newObjectHasNumbersZero();
        newObjectHasNoEdges();
        newObjectHasNoSteps();
        newObjectHasNoStarts();
        markTakesVertices0To7();
        markTakesNumbers0To9();
        markRefusesOtherVertices();
        markRefusesOtherNumbers();
        joinTakesVertices0To7();
        joinTakesLabels0And1();
        joinRefusesOneVertexTwice();
        joinRefusesOtherBeginnings();
        joinRefusesOtherEnds();
        joinRefusesOtherLabels();
        joinRefusesAnEdgeThatIsThere();
        joinTakesAnEdgeThatDiffersInOnePart();
        joinTakesTheTenthEdge();
        joinRefusesTheEleventhEdge();
        joinHasRoomForOneAfterACut();
        cutRefusesInANewObject();
        cutRefusesAnEdgeThatIsNotThere();
        cutRefusesWhatCanBeNoEdge();
        cutRefusesTheSameEdgeTwice();
        cutTakesEachOfTenUntilNoneIsLeft();
        addTakesKinds0To7();
        addRefusesOtherKinds();
        addTakesLabels0To2();
        addRefusesOtherLabels();
        addTakesNumbers0To9ForHas();
        addRefusesOtherNumbersForHas();
        addTakesAnyIntForAwayHomeAndOne();
        addTakesTheSixthStep();
        addAnswersFullForTheSeventhStep();
        addAnswersNoneBeforeFull();
        addHasRoomForOneAfterADrop();
        dropRefusesInANewObject();
        dropRefusesAfterTheLastStep();
        dropTakesEachOfSixUntilNoneIsLeft();
        fromTakes0To255();
        fromRefusesOtherSets();
        fromTakesTheOldStartsAway();
        c.end();
    }

    private static void refused(String name, int due, Call call) {
        for (State state : State.values()) {
            refusedIn(state, name, due, call);
        }
    }

    private static void refusedIn(State state, String name, int due, Call call) {
        WalkerPlan x = state.make();
        c.due(name + " in " + state, call.on(x), due);
        c.due(name + " again in " + state, call.on(x), due);
        changedNothing(state, name, x);
    }

    private static void changedNothing(State state, String name, WalkerPlan x) {
        List<String> untouched = Look.of(state.make());
        c.same("after " + name + " in " + state, Look.of(x), untouched);
    }

    private static int mark(WalkerPlan x, int v, int n) {
        return x.mark(v, n) ? 1 : 0;
    }

    private static int join(WalkerPlan x, int a, int b, int l) {
        return x.join(a, b, l) ? 1 : 0;
    }

    private static int cut(WalkerPlan x, int a, int b, int l) {
        return x.cut(a, b, l) ? 1 : 0;
    }

    private static String args(int... values) {
        StringBuilder text = new StringBuilder("(");
        for (int i = 0; i < values.length; i++) {
            text.append(i == 0 ? "" : ", ").append(values[i]);
        }
        return text.append(")").toString();
    }

    private static boolean has(State state, int a, int b, int l) {
        for (int[] e : state.edges()) {
            if (e[0] == a && e[1] == b && e[2] == l) return true;
        }
        return false;
    }

    // Promise 1

    private static void newObjectHasNumbersZero() {
        c.part("promise 1: all vertices have the number 0");
        WalkerPlan x = new WalkerPlan();
        x.from(255);
        x.add(HAS, 0);
        c.due("reached() after HAS 0", x.reached(), 255);
        x.add(HAS, 1);
        c.due("reached() after HAS 1", x.reached(), 0);
    }

    private static void newObjectHasNoEdges() {
        c.part("promise 1: no edges");
        WalkerPlan x = new WalkerPlan();
        c.due("edges()", x.edges(), 0);
        x.from(255);
        x.add(BOTH, 2);
        c.due("walkers() after BOTH 2", x.walkers(), 0);
    }

    private static void newObjectHasNoSteps() {
        c.part("promise 1: no steps");
        WalkerPlan x = new WalkerPlan();
        c.due("after(0)", x.after(0), 0);
        c.due("after(1)", x.after(1), NONE);
        c.due("drop()", x.drop(), NONE);
        c.due("add(ONE, 0)", x.add(ONE, 0), 1);
    }

    private static void newObjectHasNoStarts() {
        c.part("promise 1: no starts");
        WalkerPlan x = new WalkerPlan();
        c.due("walkers()", x.walkers(), 0);
        c.due("reached()", x.reached(), 0);
        c.due("diesAfter()", x.diesAfter(), 0);
        for (int v = 0; v < 8; v++) {
            c.due("at" + args(v), x.at(v), 0);
            c.due("startsAt" + args(v), x.startsAt(v), 0);
            c.due("between" + args(v, v), x.between(v, v), 0);
        }
    }

    // Promise 2

    private static void markTakesVertices0To7() {
        c.part("promise 2: v is 0 .. 7");
        for (int v = 0; v <= 7; v++) {
            WalkerPlan x = new WalkerPlan();
            c.due("mark" + args(v, 1), x.mark(v, 1), true);
            x.from(255);
            x.add(HAS, 1);
            c.due("reached()", x.reached(), 1 << v);
        }
    }

    private static void markTakesNumbers0To9() {
        c.part("promise 2: n is 0 .. 9");
        for (int n = 0; n <= 9; n++) {
            WalkerPlan x = new WalkerPlan();
            x.from(8);
            x.mark(3, 9 - n);
            c.due("mark" + args(3, n), x.mark(3, n), true);
            for (int least = 0; least <= 9; least++) {
                x.add(HAS, least);
                c.due("walkers() after mark" + args(3, n) + " and HAS " + least, x.walkers(), n >= least ? 1 : 0);
                x.drop();
            }
        }
    }

    private static void markRefusesOtherVertices() {
        c.part("promise 2: v is not 0 .. 7");
        for (int v : State.outside(7)) {
            for (int n : new int[] {0, 5, 9}) {
                refused("mark" + args(v, n), 0, x -> mark(x, v, n));
            }
        }
    }

    private static void markRefusesOtherNumbers() {
        c.part("promise 2: n is not 0 .. 9");
        for (int n : State.outside(9)) {
            for (int v : new int[] {0, 3, 7}) {
                refused("mark" + args(v, n), 0, x -> mark(x, v, n));
            }
            refused("mark" + args(8, n), 0, x -> mark(x, 8, n));
        }
    }

    // Promise 3

    private static void joinTakesVertices0To7() {
        c.part("promise 3: a and b are 0 .. 7");
        for (int a = 0; a <= 7; a++) {
            for (int b = 0; b <= 7; b++) {
                if (a != b) {
                    WalkerPlan x = new WalkerPlan();
                    c.due("join" + args(a, b, 0), x.join(a, b, 0), true);
                    joined(x, a, b, 0);
                }
            }
        }
    }

    private static void joinTakesLabels0And1() {
        c.part("promise 3: l is 0 or 1");
        for (int l = 0; l <= 1; l++) {
            WalkerPlan x = new WalkerPlan();
            c.due("join" + args(0, 7, l), x.join(0, 7, l), true);
            joined(x, 0, 7, l);
        }
    }

    /** The edge is the object's only one. */
    private static void joined(WalkerPlan x, int a, int b, int l) {
        String call = "after join" + args(a, b, l);
        c.due("edges() " + call, x.edges(), 1);
        x.from(255);
        x.add(OUT, l);
        c.due("between(a, b) " + call, x.between(a, b), 1);
        c.due("walkers() " + call, x.walkers(), 1);
        x.drop();
        x.add(OUT, 1 - l);
        c.due("walkers() by the other label " + call, x.walkers(), 0);
    }

    private static void joinRefusesOneVertexTwice() {
        c.part("promise 3: a = b");
        for (int v = 0; v <= 7; v++) {
            for (int l = 0; l <= 1; l++) {
                int vertex = v;
                int label = l;
                refused("join" + args(v, v, l), 0, x -> join(x, vertex, vertex, label));
            }
        }
        for (int v : State.outside(7)) {
            refused("join" + args(v, v, 0), 0, x -> join(x, v, v, 0));
        }
    }

    private static void joinRefusesOtherBeginnings() {
        c.part("promise 3: a is not 0 .. 7");
        for (int a : State.outside(7)) {
            for (int b : new int[] {0, 4, 7}) {
                refused("join" + args(a, b, 1), 0, x -> join(x, a, b, 1));
            }
        }
    }

    private static void joinRefusesOtherEnds() {
        c.part("promise 3: b is not 0 .. 7");
        for (int b : State.outside(7)) {
            for (int a : new int[] {0, 4, 7}) {
                refused("join" + args(a, b, 1), 0, x -> join(x, a, b, 1));
            }
        }
    }

    private static void joinRefusesOtherLabels() {
        c.part("promise 3: l is not 0 or 1");
        for (int l : State.outside(1)) {
            refused("join" + args(4, 5, l), 0, x -> join(x, 4, 5, l));
            refused("join" + args(0, 1, l), 0, x -> join(x, 0, 1, l));
        }
    }

    private static void joinRefusesAnEdgeThatIsThere() {
        c.part("promise 3: there is such an edge");
        for (State state : State.values()) {
            for (int[] e : state.edges()) {
                refusedIn(state, "join" + args(e), 0, x -> join(x, e[0], e[1], e[2]));
            }
        }
    }

    private static void joinTakesAnEdgeThatDiffersInOnePart() {
        c.part("promise 3: there is no such edge, but one much like it");
        for (int[] e : new int[][] {{2, 5, 1}, {5, 2, 0}, {2, 6, 0}, {1, 5, 0}}) {
            WalkerPlan x = new WalkerPlan();
            x.join(2, 5, 0);
            c.due("join" + args(e), x.join(e[0], e[1], e[2]), true);
            c.due("edges()", x.edges(), 2);
            x.from(1 << e[0]);
            x.add(OUT, e[2]);
            c.due("between" + args(e[0], e[1]), x.between(e[0], e[1]), 1);
        }
    }

    private static void joinTakesTheTenthEdge() {
        c.part("promise 3: there are fewer than ten");
        WalkerPlan x = new WalkerPlan();
        x.from(255);
        x.add(OUT, 2);
        int joined = 0;
        for (int[] e : State.FULL.edges()) {
            c.due("join" + args(e) + " with " + joined + " edges", x.join(e[0], e[1], e[2]), true);
            joined++;
            c.due("edges()", x.edges(), joined);
            c.due("walkers()", x.walkers(), joined);
            c.due("between" + args(e[0], e[1]), x.between(e[0], e[1]), 1);
        }
        c.due("edges()", x.edges(), 10);
    }

    private static void joinRefusesTheEleventhEdge() {
        c.part("promise 3: there are ten");
        for (int l = 0; l <= 1; l++) {
            WalkerPlan x = State.FULL.make();
            for (int a = 0; a <= 7; a++) {
                for (int b = 0; b <= 7; b++) {
                    c.due("join" + args(a, b, l), x.join(a, b, l), false);
                }
            }
            changedNothing(State.FULL, "each join with label " + l, x);
        }
        refusedIn(State.FULL, "join(7, 6, 1)", 0, x -> join(x, 7, 6, 1));
    }

    private static void joinHasRoomForOneAfterACut() {
        c.part("promise 3: there were ten");
        for (int[] e : State.FULL.edges()) {
            WalkerPlan x = State.FULL.make();
            x.cut(e[0], e[1], e[2]);
            c.due("edges()", x.edges(), 9);
            c.due("join(7, 6, 1)", x.join(7, 6, 1), true);
            c.due("edges()", x.edges(), 10);
            c.due("join" + args(e), x.join(e[0], e[1], e[2]), false);
            c.due("cut(7, 6, 1)", x.cut(7, 6, 1), true);
            c.due("join" + args(e), x.join(e[0], e[1], e[2]), true);
            changedNothing(State.FULL, "cut and join of" + args(e), x);
        }
    }

    // Promise 4

    private static void cutRefusesInANewObject() {
        c.part("promise 4: there is none in a new object");
        for (int l = 0; l <= 1; l++) {
            WalkerPlan x = new WalkerPlan();
            for (int a = 0; a <= 7; a++) {
                for (int b = 0; b <= 7; b++) {
                    c.due("cut" + args(a, b, l), x.cut(a, b, l), false);
                }
            }
            changedNothing(State.NEW, "each cut with label " + l, x);
        }
    }

    private static void cutRefusesAnEdgeThatIsNotThere() {
        c.part("promise 4: there is none among others");
        for (State state : new State[] {State.MIDDLE, State.FULL}) {
            for (int l = 0; l <= 1; l++) {
                WalkerPlan x = state.make();
                for (int a = 0; a <= 7; a++) {
                    for (int b = 0; b <= 7; b++) {
                        if (!has(state, a, b, l)) c.due("cut" + args(a, b, l), x.cut(a, b, l), false);
                    }
                }
                changedNothing(state, "each cut of no edge with label " + l, x);
            }
        }
    }

    private static void cutRefusesWhatCanBeNoEdge() {
        c.part("promise 4: there is none with such a vertex or label");
        for (int v : State.outside(7)) {
            refused("cut" + args(v, 1, 0), 0, x -> cut(x, v, 1, 0));
            refused("cut" + args(0, v, 0), 0, x -> cut(x, 0, v, 0));
            refused("cut" + args(v, v, 0), 0, x -> cut(x, v, v, 0));
        }
        for (int l : State.outside(1)) {
            refused("cut" + args(0, 1, l), 0, x -> cut(x, 0, 1, l));
        }
    }

    private static void cutRefusesTheSameEdgeTwice() {
        c.part("promise 4: there is none any more");
        for (State state : new State[] {State.MIDDLE, State.FULL}) {
            for (int[] e : state.edges()) {
                WalkerPlan x = state.make();
                c.due("cut" + args(e), x.cut(e[0], e[1], e[2]), true);
                c.due("edges()", x.edges(), state.edges().length - 1);
                c.due("cut" + args(e) + " again", x.cut(e[0], e[1], e[2]), false);
                c.due("edges()", x.edges(), state.edges().length - 1);
                c.due("join" + args(e), x.join(e[0], e[1], e[2]), true);
                changedNothing(state, "cut and join of" + args(e), x);
            }
        }
    }

    private static void cutTakesEachOfTenUntilNoneIsLeft() {
        c.part("promise 4: from ten edges to none");
        int[][] edges = State.FULL.edges();
        for (int first = 0; first < 10; first++) {
            WalkerPlan x = State.FULL.make();
            for (int k = 0; k < 10; k++) {
                // Steps of three go round all ten, so the edges are cut in another order than joined.
                int[] e = edges[(first + 3 * k) % 10];
                c.due("cut" + args(e), x.cut(e[0], e[1], e[2]), true);
                c.due("edges()", x.edges(), 9 - k);
            }
            c.due("walkers() without edges", x.walkers(), 0);
            c.due("cut" + args(edges[first]), cut(x, edges[first][0], edges[first][1], edges[first][2]), 0);
        }
    }

    // Promise 5

    private static void addTakesKinds0To7() {
        c.part("promise 5: kind is 0 .. 7");
        for (int kind = 0; kind <= 7; kind++) {
            WalkerPlan x = new WalkerPlan();
            c.due("add" + args(kind, 0), x.add(kind, 0), 1);
            c.due("after(1)", x.after(1), 0);
            c.due("drop()", x.drop(), 0);
        }
    }

    private static void addRefusesOtherKinds() {
        c.part("promise 5: kind is not 0 .. 7");
        for (int kind : State.outside(7)) {
            for (int n : new int[] {0, 2, 9, MIN, MAX}) {
                refused("add" + args(kind, n), NONE, x -> x.add(kind, n));
            }
        }
    }

    private static void addTakesLabels0To2() {
        c.part("promise 5: n is 0 .. 2 for OUT, IN, BOTH and MAYBE");
        for (int kind = OUT; kind <= MAYBE; kind++) {
            for (int n = 0; n <= 2; n++) {
                WalkerPlan x = new WalkerPlan();
                c.due("add" + args(kind, n), x.add(kind, n), 1);
                c.due("after(1)", x.after(1), 0);
            }
        }
    }

    private static void addRefusesOtherLabels() {
        c.part("promise 5: n is not 0 .. 2 for OUT, IN, BOTH and MAYBE");
        for (int kind : new int[] {OUT, IN, BOTH, MAYBE}) {
            for (int n : State.outside(2)) {
                refused("add" + args(kind, n), NONE, x -> x.add(kind, n));
            }
            refused("add" + args(kind, 9), NONE, x -> x.add(kind, 9));
        }
    }

    private static void addTakesNumbers0To9ForHas() {
        c.part("promise 5: n is 0 .. 9 for HAS");
        for (int n = 0; n <= 9; n++) {
            WalkerPlan x = new WalkerPlan();
            c.due("add" + args(HAS, n), x.add(HAS, n), 1);
            c.due("after(1)", x.after(1), 0);
        }
    }

    private static void addRefusesOtherNumbersForHas() {
        c.part("promise 5: n is not 0 .. 9 for HAS");
        for (int n : State.outside(9)) {
            refused("add" + args(HAS, n), NONE, x -> x.add(HAS, n));
        }
    }

    private static void addTakesAnyIntForAwayHomeAndOne() {
        c.part("promise 5: for AWAY, HOME and ONE n may be any int");
        for (int kind = AWAY; kind <= ONE; kind++) {
            for (int n : new int[] {MIN, MIN + 1, -2, -1, 0, 1, 2, 3, 9, 10, 256, MAX - 1, MAX}) {
                anyNumberCountsAsZero(kind, n, State.NEW);
                anyNumberCountsAsZero(kind, n, State.MIDDLE);
                WalkerPlan full = State.FULL.make();
                c.due("drop()", full.drop(), 5);
                c.due("add" + args(kind, n) + " as the sixth", full.add(kind, n), 6);
            }
        }
    }

    private static void anyNumberCountsAsZero(int kind, int n, State state) {
        WalkerPlan x = state.make();
        c.due("add" + args(kind, n) + " in " + state, x.add(kind, n), state.steps() + 1);
        WalkerPlan zero = state.make();
        zero.add(kind, 0);
        c.same("after add" + args(kind, n) + " in " + state, Look.of(x), Look.of(zero));
    }

    private static void addTakesTheSixthStep() {
        c.part("promise 5: the number of steps now");
        for (int kind = OUT; kind <= ONE; kind++) {
            WalkerPlan x = new WalkerPlan();
            for (int k = 1; k <= 6; k++) {
                c.due("add" + args(kind, 0), x.add(kind, 0), k);
                c.due("after" + args(k), x.after(k), 0);
                c.due("after" + args(k + 1), x.after(k + 1), NONE);
            }
        }
        c.part("promise 5: the sixth step is done");
        WalkerPlan y = new WalkerPlan();
        y.from(255);
        for (int k = 1; k <= 5; k++) {
            y.add(HOME, 0);
        }
        c.due("walkers() after five", y.walkers(), 8);
        c.due("add(AWAY, 0)", y.add(AWAY, 0), 6);
        c.due("walkers() after six", y.walkers(), 0);
    }

    private static void addAnswersFullForTheSeventhStep() {
        c.part("promise 5: FULL when there are six");
        for (int kind : new int[] {OUT, IN, BOTH, MAYBE}) {
            for (int n : new int[] {0, 1, 2}) {
                refusedIn(State.FULL, "add" + args(kind, n), PLAN_FULL, x -> x.add(kind, n));
            }
        }
        for (int n : new int[] {0, 1, 2, 3, 4, 5, 6, 7, 8, 9}) {
            refusedIn(State.FULL, "add" + args(HAS, n), PLAN_FULL, x -> x.add(HAS, n));
        }
        for (int kind : new int[] {AWAY, HOME, ONE}) {
            for (int n : new int[] {MIN, -1, 0, 3, 10, MAX}) {
                refusedIn(State.FULL, "add" + args(kind, n), PLAN_FULL, x -> x.add(kind, n));
            }
        }
    }

    private static void addAnswersNoneBeforeFull() {
        c.part("promise 5: NONE, then FULL");
        WalkerPlan x = State.FULL.make();
        for (int kind : State.outside(7)) {
            c.due("add" + args(kind, 0), x.add(kind, 0), NONE);
        }
        for (int n : State.outside(2)) {
            for (int kind = OUT; kind <= MAYBE; kind++) {
                c.due("add" + args(kind, n), x.add(kind, n), NONE);
            }
        }
        for (int n : State.outside(9)) {
            c.due("add" + args(HAS, n), x.add(HAS, n), NONE);
        }
        c.due("add(OUT, 2)", x.add(OUT, 2), PLAN_FULL);
        c.due("add(HAS, 9)", x.add(HAS, 9), PLAN_FULL);
        c.due("drop()", x.drop(), 5);
    }

    private static void addHasRoomForOneAfterADrop() {
        c.part("promise 5: there were six");
        WalkerPlan x = State.FULL.make();
        c.due("drop()", x.drop(), 5);
        c.due("add(BOTH, 2)", x.add(BOTH, 2), 6);
        c.due("add(BOTH, 2) again", x.add(BOTH, 2), PLAN_FULL);
        changedNothing(State.FULL, "drop and add", x);
    }

    // Promise 6

    private static void dropRefusesInANewObject() {
        c.part("promise 6: NONE when there is none");
        refusedIn(State.NEW, "drop()", NONE, x -> x.drop());
        WalkerPlan x = new WalkerPlan();
        x.drop();
        c.due("add(ONE, 0)", x.add(ONE, 0), 1);
    }

    private static void dropRefusesAfterTheLastStep() {
        c.part("promise 6: NONE when there is none left");
        for (State state : new State[] {State.MIDDLE, State.FULL}) {
            WalkerPlan x = state.make();
            WalkerPlan untouched = state.make();
            for (int k = state.steps(); k > 0; k--) {
                x.drop();
                untouched.drop();
            }
            c.due("drop()", x.drop(), NONE);
            c.due("drop() again", x.drop(), NONE);
            c.same("after drop() of none", Look.of(x), Look.of(untouched));
        }
    }

    private static void dropTakesEachOfSixUntilNoneIsLeft() {
        c.part("promise 6: the number of steps left");
        WalkerPlan x = State.FULL.make();
        for (int k = 5; k >= 0; k--) {
            c.due("drop()", x.drop(), k);
            c.due("after" + args(k), x.after(k), x.walkers());
            c.due("after" + args(k + 1), x.after(k + 1), NONE);
        }
        c.due("drop()", x.drop(), NONE);
        c.due("reached()", x.reached(), 255);
    }

    // Promise 7

    private static void fromTakes0To255() {
        c.part("promise 7: set is 0 .. 255");
        for (int set = 0; set <= 255; set++) {
            WalkerPlan x = new WalkerPlan();
            c.due("from" + args(set), x.from(set), true);
            c.due("reached() from " + set, x.reached(), set);
            for (int v = 0; v < 8; v++) {
                c.due("between" + args(v, v) + " from " + set, x.between(v, v), set >> v & 1);
            }
        }
    }

    private static void fromRefusesOtherSets() {
        c.part("promise 7: set is not 0 .. 255");
        for (int set : State.outside(255)) {
            refused("from" + args(set), 0, x -> x.from(set) ? 1 : 0);
        }
        for (int bit = 8; bit <= 31; bit++) {
            int set = 1 << bit | 1;
            refused("from" + args(set), 0, x -> x.from(set) ? 1 : 0);
        }
    }

    private static void fromTakesTheOldStartsAway() {
        c.part("promise 7: sets the starts");
        WalkerPlan x = new WalkerPlan();
        for (int set : new int[] {255, 0, 128, 1, 254, 127, 0, 255}) {
            c.due("from" + args(set), x.from(set), true);
            c.due("reached()", x.reached(), set);
            c.due("walkers()", x.walkers(), Integer.bitCount(set));
        }
    }
}
