/** What each kind of step does, as the section "Terms" of the document tells it. */
public final class StepTest {
    private static final int OUT = 0, IN = 1, BOTH = 2, MAYBE = 3, HAS = 4, AWAY = 5, HOME = 6, ONE = 7;
    private static final Checks c = new Checks();

    public static void main(String[] args) {
        outFollowsFittingEdges();
        inGoesBack();
        bothTakesOutAndIn();
        maybeStaysWithoutWayOut();
        hasComparesNumbers();
        awayAndHomeLookAtTheStart();
        oneKeepsTheLeastStart();
        oneIsDoneForEachVertex();
        stepsAreDoneInOrder();
        c.end();
    }

    /** 0 to 1 by both labels, 0 to 2 by label 0, 3 to 0 by label 1. */
    private static WalkerPlan fork(int starts) {
        WalkerPlan x = new WalkerPlan();
        x.join(0, 1, 0);
        x.join(0, 1, 1);
        x.join(0, 2, 0);
        x.join(3, 0, 1);
        x.from(starts);
        return x;
    }

    private static void dueAt(WalkerPlan x, int... counts) {
        int all = 0;
        for (int v = 0; v < counts.length; v++) {
            c.due("at(" + v + ")", x.at(v), counts[v]);
            all += counts[v];
        }
        c.due("walkers()", x.walkers(), all);
    }

    private static void step(String name, int starts, int kind, int n, int... counts) {
        c.part(name + " " + n + " from " + starts);
        WalkerPlan x = fork(starts);
        x.add(kind, n);
        dueAt(x, counts);
    }

    private static void outFollowsFittingEdges() {
        step("OUT", 1, OUT, 0, 0, 1, 1, 0);
        step("OUT", 1, OUT, 1, 0, 1, 0, 0);
        step("OUT", 1, OUT, 2, 0, 2, 1, 0);
        step("OUT", 6, OUT, 2, 0, 0, 0, 0);
        step("OUT", 8, OUT, 0, 0, 0, 0, 0);
        step("OUT", 9, OUT, 1, 1, 1, 0, 0);
    }

    private static void inGoesBack() {
        step("IN", 2, IN, 0, 1, 0, 0, 0);
        step("IN", 2, IN, 2, 2, 0, 0, 0);
        step("IN", 4, IN, 1, 0, 0, 0, 0);
        step("IN", 1, IN, 1, 0, 0, 0, 1);
        step("IN", 1, IN, 0, 0, 0, 0, 0);
        step("IN", 15, IN, 2, 3, 0, 0, 1);
    }

    private static void bothTakesOutAndIn() {
        step("BOTH", 1, BOTH, 0, 0, 1, 1, 0);
        step("BOTH", 1, BOTH, 1, 0, 1, 0, 1);
        step("BOTH", 1, BOTH, 2, 0, 2, 1, 1);
        step("BOTH", 6, BOTH, 2, 3, 0, 0, 0);
        c.part("BOTH, edges there and back");
        WalkerPlan x = new WalkerPlan();
        x.join(4, 5, 0);
        x.join(5, 4, 0);
        x.from(1 << 4);
        x.add(BOTH, 0);
        c.due("each edge brings one", x.between(4, 5), 2);
        c.due("walkers()", x.walkers(), 2);
    }

    private static void maybeStaysWithoutWayOut() {
        step("MAYBE", 1, MAYBE, 0, 0, 1, 1, 0);
        step("MAYBE", 1, MAYBE, 2, 0, 2, 1, 0);
        step("MAYBE", 8, MAYBE, 0, 0, 0, 0, 1);
        step("MAYBE", 8, MAYBE, 1, 1, 0, 0, 0);
        step("MAYBE", 14, MAYBE, 2, 1, 1, 1, 0);
        step("MAYBE", 7, MAYBE, 1, 0, 2, 1, 0);
        c.part("MAYBE keeps all that stand together");
        WalkerPlan x = fork(1);
        x.add(OUT, 2);
        x.add(MAYBE, 2);
        dueAt(x, 0, 2, 1, 0);
        c.part("MAYBE on a lone edge, then on none");
        WalkerPlan y = new WalkerPlan();
        y.from(1);
        y.add(MAYBE, 2);
        dueAt(y, 1, 0);
        y.join(0, 1, 1);
        dueAt(y, 0, 1);
        y.cut(0, 1, 1);
        dueAt(y, 1, 0);
    }

    private static void hasComparesNumbers() {
        c.part("HAS");
        WalkerPlan x = fork(1);
        x.mark(1, 5);
        x.mark(2, 4);
        x.mark(0, 9);
        x.add(OUT, 2);
        x.add(HAS, 4);
        dueAt(x, 0, 2, 1, 0);
        x.drop();
        x.add(HAS, 5);
        dueAt(x, 0, 2, 0, 0);
        x.drop();
        x.add(HAS, 6);
        dueAt(x, 0, 0, 0, 0);
        x.mark(2, 9);
        dueAt(x, 0, 0, 1, 0);
    }

    private static void awayAndHomeLookAtTheStart() {
        WalkerPlan x = new WalkerPlan();
        x.join(0, 1, 0);
        x.join(1, 0, 0);
        x.join(1, 2, 0);
        x.from(3);
        c.part("AWAY at the start");
        x.add(AWAY, 0);
        c.due("walkers()", x.walkers(), 0);
        x.drop();
        c.part("HOME at the start");
        x.add(HOME, 0);
        c.due("walkers()", x.walkers(), 2);
        x.drop();
        // After two steps: start 0 is at 0 and 2, start 1 is at 1.
        x.add(OUT, 0);
        x.add(OUT, 0);
        c.part("AWAY");
        x.add(AWAY, 0);
        dueAt(x, 0, 0, 1);
        c.due("startsAt(2)", x.startsAt(2), 1);
        x.drop();
        c.part("HOME");
        x.add(HOME, 0);
        dueAt(x, 1, 1, 0);
        c.due("startsAt(0)", x.startsAt(0), 1);
        c.due("startsAt(1)", x.startsAt(1), 2);
    }

    private static void oneKeepsTheLeastStart() {
        c.part("ONE");
        WalkerPlan x = new WalkerPlan();
        for (int s = 0; s < 4; s++) {
            x.join(s, 7, 0);
            x.join(s, 7, 1);
        }
        x.add(OUT, 2);
        x.add(ONE, 0);
        for (int starts = 1; starts < 16; starts++) {
            x.from(starts);
            c.due("at(7) from " + starts, x.at(7), 1);
            c.due("startsAt(7) from " + starts, x.startsAt(7), Integer.lowestOneBit(starts));
            c.due("walkers() from " + starts, x.walkers(), 1);
        }
    }

    private static void oneIsDoneForEachVertex() {
        c.part("ONE for each vertex");
        WalkerPlan x = new WalkerPlan();
        x.join(0, 5, 0);
        x.join(1, 5, 0);
        x.join(0, 6, 0);
        x.join(0, 6, 1);
        x.join(2, 3, 0);
        x.join(1, 3, 0);
        x.from(7);
        x.add(OUT, 2);
        x.add(ONE, 0);
        dueAt(x, 0, 0, 0, 1, 0, 1, 1, 0);
        c.due("startsAt(3)", x.startsAt(3), 2);
        c.due("startsAt(5)", x.startsAt(5), 1);
        c.due("startsAt(6)", x.startsAt(6), 1);
    }

    private static void stepsAreDoneInOrder() {
        c.part("order");
        WalkerPlan x = fork(3);
        x.add(OUT, 0);
        x.add(AWAY, 0);
        c.due("OUT then AWAY", x.walkers(), 2);
        WalkerPlan y = fork(3);
        y.add(AWAY, 0);
        y.add(OUT, 0);
        c.due("AWAY then OUT", y.walkers(), 0);
    }
}
