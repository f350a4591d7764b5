/**
 * Each sentence of promises 8 to 15 that names a boundary case, asked where a wrong look would
 * find walkers: in a full object there are some from each start at each vertex.
 */
public final class QuestionBoundaryTest {
    private static final int OUT = State.OUT, BOTH = State.BOTH, HAS = State.HAS;
    private static final int AWAY = State.AWAY, HOME = State.HOME, ONE = State.ONE;
    private static final int NONE = State.NONE, MIN = State.MIN, MAX = State.MAX;
    private static final int MOST_CALLS = 512;
    private static final Checks c = new Checks();

    private interface Call {
        int on(WalkerPlan x);
    }

    public static void main(String[] args) {
        theFullObjectHasWalkersEverywhere();
        atTellsOfVertices0To7();
        atAnswers0ForOtherVertices();
        walkersAnswers0WhenThereAreNone();
        walkersCountsAsManyAsThereCanBe();
        afterTakes0ToTheNumberOfSteps();
        afterAnswersNoneBelow0();
        afterAnswersNoneAboveTheNumberOfSteps();
        afterAnswersNoneForADroppedStep();
        betweenTellsOfVertices0To7();
        betweenAnswers0ForOtherStarts();
        betweenAnswers0ForOtherVertices();
        betweenAnswers0WhenBothAreOther();
        reachedIsEmptyWhenThereAreNone();
        reachedHasABitForEachVertex();
        startsAtHasABitForEachStart();
        startsAtAnswers0WhereThereAreNone();
        startsAtAnswers0ForOtherVertices();
        diesAfterAnswers0WithoutStarts();
        diesAfterAnswersEachNumberOfSteps();
        diesAfterAnswersTheLeast();
        diesAfterAnswersNoneWhenSomeAreLeft();
        edgesCountsFrom0To10();
        edgesCountsNoRefusedCall();
        questionsChangeNothing();
        theLastCallOf512IsAnswered();
        c.end();
    }

    private static void theFullObjectHasWalkersEverywhere() {
        c.part("the full object of these tests");
        WalkerPlan x = State.FULL.make();
        for (int s = 0; s < 8; s++) {
            for (int v = 0; v < 8; v++) {
                c.due("walkers from " + s + " to " + v, x.between(s, v) > 0, true);
            }
        }
    }

    // Promise 8

    private static void atTellsOfVertices0To7() {
        c.part("promise 8: v is 0 .. 7");
        for (int v = 0; v <= 7; v++) {
            WalkerPlan x = new WalkerPlan();
            x.from(1 << v);
            for (int other = 0; other <= 7; other++) {
                c.due("at(" + other + ") from vertex " + v, x.at(other), other == v ? 1 : 0);
            }
        }
    }

    private static void atAnswers0ForOtherVertices() {
        c.part("promise 8: 0 when v is not 0 .. 7");
        for (State state : State.values()) {
            WalkerPlan x = state.make();
            for (int v : State.outside(7)) {
                c.due("at(" + v + ") in " + state, x.at(v), 0);
            }
        }
    }

    // Promise 9

    private static void walkersAnswers0WhenThereAreNone() {
        c.part("promise 9: no walkers");
        c.due("walkers() of a new object", new WalkerPlan().walkers(), 0);
        WalkerPlan x = State.FULL.make();
        x.from(0);
        c.due("walkers() without starts", x.walkers(), 0);
        x.from(255);
        x.drop();
        x.add(HOME, 0);
        c.due("walkers() at home", x.walkers() > 0, true);
        x.drop();
        x.drop();
        x.add(HOME, 0);
        x.add(AWAY, 0);
        c.due("walkers() when all have died", x.walkers(), 0);
    }

    /** Ten edges among three vertices make very many ways: some 280000 walkers after six steps. */
    private static void walkersCountsAsManyAsThereCanBe() {
        c.part("promise 9: the counts of walkers are far from the greatest int");
        WalkerPlan x = new WalkerPlan();
        for (int l = 0; l <= 1; l++) {
            x.join(0, 1, l);
            x.join(1, 0, l);
            x.join(0, 2, l);
            x.join(2, 0, l);
            x.join(1, 2, l);
        }
        x.from(7);
        int[] ways = {1, 1, 1};
        for (int k = 1; k <= 6; k++) {
            x.add(BOTH, 2);
            ways = new int[] {4 * ways[1] + 4 * ways[2], 4 * ways[0] + 2 * ways[2], 4 * ways[0] + 2 * ways[1]};
            c.due("walkers() after " + k, x.walkers(), ways[0] + ways[1] + ways[2]);
            for (int v = 0; v <= 2; v++) {
                c.due("at(" + v + ") after " + k, x.at(v), ways[v]);
            }
        }
    }

    // Promise 10

    private static WalkerPlan withSteps(int steps) {
        WalkerPlan x = new WalkerPlan();
        x.join(0, 1, 0);
        x.join(0, 1, 1);
        x.join(1, 0, 0);
        x.join(1, 0, 1);
        x.from(1);
        for (int k = 0; k < steps; k++) {
            x.add(OUT, 2);
        }
        return x;
    }

    private static void afterTakes0ToTheNumberOfSteps() {
        c.part("promise 10: k is from 0 to the number of steps");
        for (int steps = 0; steps <= 6; steps++) {
            WalkerPlan x = withSteps(steps);
            for (int k = 0; k <= steps; k++) {
                c.due("after(" + k + ") of " + steps, x.after(k), 1 << k);
            }
        }
    }

    private static void afterAnswersNoneBelow0() {
        c.part("promise 10: k is below 0");
        for (int steps = 0; steps <= 6; steps++) {
            WalkerPlan x = withSteps(steps);
            for (int k : new int[] {-1, -2, -6, -7, -256, MIN + 1, MIN}) {
                c.due("after(" + k + ") of " + steps, x.after(k), NONE);
            }
        }
    }

    private static void afterAnswersNoneAboveTheNumberOfSteps() {
        c.part("promise 10: k is above the number of steps");
        for (int steps = 0; steps <= 6; steps++) {
            WalkerPlan x = withSteps(steps);
            for (int k = steps + 1; k <= 9; k++) {
                c.due("after(" + k + ") of " + steps, x.after(k), NONE);
            }
            for (int k : new int[] {256, 1 << 29, MAX - 1, MAX}) {
                c.due("after(" + k + ") of " + steps, x.after(k), NONE);
            }
        }
    }

    private static void afterAnswersNoneForADroppedStep() {
        c.part("promise 10: the number of steps has become less");
        WalkerPlan x = withSteps(6);
        for (int steps = 5; steps >= 0; steps--) {
            x.drop();
            c.due("after(" + steps + ")", x.after(steps), 1 << steps);
            c.due("after(" + (steps + 1) + ")", x.after(steps + 1), NONE);
        }
    }

    // Promise 11

    private static void betweenTellsOfVertices0To7() {
        c.part("promise 11: s and v are 0 .. 7");
        for (int s = 0; s <= 7; s++) {
            for (int v = 0; v <= 7; v++) {
                WalkerPlan x = new WalkerPlan();
                x.from(1 << s);
                if (s != v) {
                    x.join(s, v, 0);
                    x.add(OUT, 0);
                }
                for (int other = 0; other <= 7; other++) {
                    String end = ", the walker is from " + s + " at " + v;
                    c.due("between(s, " + other + ")" + end, x.between(s, other), other == v ? 1 : 0);
                    c.due("between(" + other + ", v)" + end, x.between(other, v), other == s ? 1 : 0);
                }
            }
        }
    }

    private static void betweenAnswers0ForOtherStarts() {
        c.part("promise 11: 0 when s is not 0 .. 7");
        for (State state : State.values()) {
            WalkerPlan x = state.make();
            for (int s : State.outside(7)) {
                for (int v = 0; v <= 7; v++) {
                    c.due("between(" + s + ", " + v + ") in " + state, x.between(s, v), 0);
                }
            }
        }
    }

    private static void betweenAnswers0ForOtherVertices() {
        c.part("promise 11: 0 when v is not 0 .. 7");
        for (State state : State.values()) {
            WalkerPlan x = state.make();
            for (int v : State.outside(7)) {
                for (int s = 0; s <= 7; s++) {
                    c.due("between(" + s + ", " + v + ") in " + state, x.between(s, v), 0);
                }
            }
        }
    }

    private static void betweenAnswers0WhenBothAreOther() {
        c.part("promise 11: 0 when neither s nor v is 0 .. 7");
        for (State state : State.values()) {
            WalkerPlan x = state.make();
            for (int s : State.outside(7)) {
                for (int v : State.outside(7)) {
                    c.due("between(" + s + ", " + v + ") in " + state, x.between(s, v), 0);
                }
            }
            // A place that is found as 8 * s + v would be one of the 64 here.
            c.due("between(-1, 8) in " + state, x.between(-1, 8), 0);
            c.due("between(-1, 15) in " + state, x.between(-1, 15), 0);
            c.due("between(8, -1) in " + state, x.between(8, -1), 0);
            c.due("between(8, -64) in " + state, x.between(8, -64), 0);
        }
    }

    // Promise 12

    private static void reachedIsEmptyWhenThereAreNone() {
        c.part("promise 12: no walkers");
        c.due("reached() of a new object", new WalkerPlan().reached(), 0);
        WalkerPlan x = State.FULL.make();
        c.due("reached() of a full object", x.reached(), 255);
        x.from(0);
        c.due("reached() without starts", x.reached(), 0);
    }

    private static void reachedHasABitForEachVertex() {
        c.part("promise 12: bit v for vertex v");
        for (int v = 0; v <= 7; v++) {
            WalkerPlan x = new WalkerPlan();
            int start = 7 - v;
            x.from(1 << start);
            x.join(start, v, 0);
            x.add(OUT, 0);
            c.due("reached() with a walker at " + v, x.reached(), 1 << v);
            x.join(start, v, 1);
            x.drop();
            x.add(OUT, 2);
            c.due("reached() with two walkers at " + v, x.reached(), 1 << v);
        }
    }

    // Promise 13

    private static void startsAtHasABitForEachStart() {
        c.part("promise 13: bit s for start s");
        for (int s = 0; s <= 7; s++) {
            WalkerPlan x = new WalkerPlan();
            int end = 7 - s;
            x.from(1 << s);
            c.due("startsAt(s) of a start " + s, x.startsAt(s), 1 << s);
            x.join(s, end, 0);
            x.join(s, end, 1);
            x.add(OUT, 2);
            c.due("startsAt of two walkers from " + s, x.startsAt(end), 1 << s);
        }
        WalkerPlan full = State.FULL.make();
        for (int v = 0; v <= 7; v++) {
            c.due("startsAt(" + v + ") of a full object", full.startsAt(v), 255);
        }
    }

    private static void startsAtAnswers0WhereThereAreNone() {
        c.part("promise 13: no walkers at v");
        WalkerPlan x = new WalkerPlan();
        for (int v = 0; v <= 7; v++) {
            c.due("startsAt(" + v + ") of a new object", x.startsAt(v), 0);
        }
        for (int v = 0; v <= 7; v++) {
            x.from(255 - (1 << v));
            c.due("startsAt(" + v + ") when all others start", x.startsAt(v), 0);
        }
    }

    private static void startsAtAnswers0ForOtherVertices() {
        c.part("promise 13: 0 when v is not 0 .. 7");
        for (State state : State.values()) {
            WalkerPlan x = state.make();
            for (int v : State.outside(7)) {
                c.due("startsAt(" + v + ") in " + state, x.startsAt(v), 0);
            }
        }
    }

    // Promise 14

    private static void diesAfterAnswers0WithoutStarts() {
        c.part("promise 14: no walkers after 0 steps");
        for (State state : State.values()) {
            WalkerPlan x = state.make();
            x.from(0);
            c.due("diesAfter() in " + state, x.diesAfter(), 0);
        }
    }

    private static void diesAfterAnswersEachNumberOfSteps() {
        c.part("promise 14: the number of steps after which there are no walkers");
        for (int k = 1; k <= 6; k++) {
            WalkerPlan x = withSteps(k - 1);
            x.mark(0, 8);
            x.mark(1, 8);
            c.due("diesAfter() of " + (k - 1) + " steps", x.diesAfter(), NONE);
            x.add(HAS, 9);
            c.due("diesAfter() with HAS 9 as step " + k, x.diesAfter(), k);
            x.drop();
            x.add(HAS, 8);
            c.due("diesAfter() with HAS 8 as step " + k, x.diesAfter(), NONE);
        }
    }

    private static void diesAfterAnswersTheLeast() {
        c.part("promise 14: the least number of steps");
        for (int k = 1; k <= 6; k++) {
            WalkerPlan x = withSteps(k - 1);
            for (int step = k; step <= 6; step++) {
                x.add(HAS, 1);
                c.due("diesAfter() of " + step + " steps, dead after " + k, x.diesAfter(), k);
            }
        }
    }

    private static void diesAfterAnswersNoneWhenSomeAreLeft() {
        c.part("promise 14: NONE when there are some after every number of steps");
        for (int steps = 0; steps <= 6; steps++) {
            WalkerPlan x = withSteps(steps);
            c.due("diesAfter() of " + steps + " steps", x.diesAfter(), NONE);
            c.due("walkers()", x.walkers(), 1 << steps);
        }
        WalkerPlan one = new WalkerPlan();
        one.from(128);
        one.add(ONE, 0);
        c.due("diesAfter() with one walker left", one.diesAfter(), NONE);
        c.due("diesAfter() of a full object", State.FULL.make().diesAfter(), NONE);
    }

    // Promise 15

    private static void edgesCountsFrom0To10() {
        c.part("promise 15: from no edge to ten and back");
        WalkerPlan x = new WalkerPlan();
        int count = 0;
        c.due("edges()", x.edges(), 0);
        for (int[] e : State.FULL.edges()) {
            x.join(e[0], e[1], e[2]);
            count++;
            c.due("edges()", x.edges(), count);
        }
        for (int[] e : State.FULL.edges()) {
            x.cut(e[0], e[1], e[2]);
            count--;
            c.due("edges()", x.edges(), count);
        }
        c.due("edges()", x.edges(), 0);
    }

    private static void edgesCountsNoRefusedCall() {
        c.part("promise 15: refused calls");
        WalkerPlan empty = new WalkerPlan();
        empty.cut(0, 1, 0);
        empty.join(0, 0, 0);
        c.due("edges() of a new object", empty.edges(), 0);
        WalkerPlan full = State.FULL.make();
        full.join(7, 6, 1);
        full.cut(7, 6, 1);
        full.join(0, 1, 0);
        c.due("edges() of a full object", full.edges(), 10);
    }

    // All questions

    private static Call[] questions() {
        return new Call[] {
            x -> x.at(0), x -> x.at(7), x -> x.at(-1), x -> x.at(8), x -> x.at(MIN), x -> x.at(MAX),
            x -> x.walkers(),
            x -> x.after(0), x -> x.after(1), x -> x.after(6),
            x -> x.after(-1), x -> x.after(7), x -> x.after(MIN), x -> x.after(MAX),
            x -> x.between(0, 0), x -> x.between(7, 7), x -> x.between(-1, 0), x -> x.between(0, 8),
            x -> x.between(MIN, 3), x -> x.between(3, MAX),
            x -> x.reached(),
            x -> x.startsAt(0), x -> x.startsAt(7), x -> x.startsAt(-1), x -> x.startsAt(8),
            x -> x.startsAt(MIN), x -> x.startsAt(MAX),
            x -> x.diesAfter(),
            x -> x.edges()};
    }

    private static void questionsChangeNothing() {
        c.part("promises 8 to 15: a question changes nothing");
        Call[] questions = questions();
        for (State state : State.values()) {
            for (int q = 0; q < questions.length; q++) {
                WalkerPlan x = state.make();
                int first = questions[q].on(x);
                c.due("question " + q + " again in " + state, questions[q].on(x), first);
                c.same("after question " + q + " in " + state, Look.of(x), Look.of(state.make()));
            }
        }
    }

    /** Uses an object for 511 calls that leave it as it was. */
    private static WalkerPlan nearlyUsedUp() {
        WalkerPlan x = State.FULL.make();
        int calls = 8 + 10 + 6 + 1;
        while (calls + 6 < MOST_CALLS) {
            x.drop();
            x.add(BOTH, 2);
            x.cut(0, 1, 0);
            x.join(0, 1, 0);
            x.walkers();
            x.mark(calls % 8, 9);
            calls += 6;
        }
        while (calls + 1 < MOST_CALLS) {
            x.from(255);
            calls++;
        }
        return x;
    }

    private static void theLastCallOf512IsAnswered() {
        c.part("an object is used for at most 512 calls");
        Call[] questions = questions();
        for (int q = 0; q < questions.length; q++) {
            c.due("question " + q + " as call 512", questions[q].on(nearlyUsedUp()), questions[q].on(State.FULL.make()));
        }
        c.due("mark(7, 0) as call 512", nearlyUsedUp().mark(7, 0), true);
        c.due("join(0, 1, 0) as call 512", nearlyUsedUp().join(0, 1, 0), false);
        c.due("cut(0, 1, 0) as call 512", nearlyUsedUp().cut(0, 1, 0), true);
        c.due("add(OUT, 0) as call 512", nearlyUsedUp().add(OUT, 0), State.PLAN_FULL);
        c.due("drop() as call 512", nearlyUsedUp().drop(), 5);
        c.due("from(0) as call 512", nearlyUsedUp().from(0), true);
    }
}
