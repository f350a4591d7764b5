/** One method for each promise of the document, bearing its number. */
public final class PromiseTest {
    private static final int OUT = 0, IN = 1, BOTH = 2, MAYBE = 3, HAS = 4, AWAY = 5, HOME = 6, ONE = 7;
    private static final int NONE = -1, FULL = -2;
    private static final int[] NO_VERTEX = {-1, 8, 9, 16, 64, Integer.MIN_VALUE, Integer.MAX_VALUE};
    private static final Checks c = new Checks();

    public static void main(String[] args) {
        constants();
        promise1NewObject();
        promise2Mark();
        promise2MarkRefusals();
        promise3Join();
        promise3JoinRefusals();
        promise3TenEdges();
        promise4Cut();
        promise4CutKeepsTheOthers();
        promise5Add();
        promise5AddRefusals();
        promise5AddFull();
        promise6Drop();
        promise7From();
        promise8At();
        promise9Walkers();
        promise10After();
        promise11Between();
        promise12Reached();
        promise13StartsAt();
        promise14DiesAfter();
        promise15Edges();
        c.end();
    }

    private static void constants() {
        c.part("constants");
        c.due("NONE", WalkerPlan.NONE, -1);
        c.due("FULL", WalkerPlan.FULL, -2);
    }

    private static void promise1NewObject() {
        c.part("promise 1");
        WalkerPlan x = new WalkerPlan();
        c.due("edges()", x.edges(), 0);
        c.due("walkers()", x.walkers(), 0);
        c.due("reached()", x.reached(), 0);
        c.due("after(0)", x.after(0), 0);
        c.due("after(1)", x.after(1), NONE);
        c.due("diesAfter()", x.diesAfter(), 0);
        c.due("drop()", x.drop(), NONE);
        for (int v = 0; v < 8; v++) {
            c.due("at", x.at(v), 0);
            c.due("startsAt", x.startsAt(v), 0);
        }
        x.from(255);
        x.add(HAS, 1);
        c.due("no vertex has a number of 1 or more", x.walkers(), 0);
        x.drop();
        x.add(HAS, 0);
        c.due("every vertex has the number 0", x.reached(), 255);
        new WalkerPlan().from(255);
        c.due("objects share nothing", new WalkerPlan().walkers(), 0);
    }

    private static void promise2Mark() {
        c.part("promise 2");
        for (int v = 0; v < 8; v++) {
            for (int n = 0; n <= 9; n++) {
                WalkerPlan x = new WalkerPlan();
                x.from(255);
                c.due("mark(" + v + ", " + n + ")", x.mark(v, n), true);
                x.add(HAS, n);
                c.due("HAS n", x.reached(), n == 0 ? 255 : 1 << v);
                x.drop();
                c.due("HAS n + 1", x.add(HAS, n + 1), n == 9 ? NONE : 1);
                c.due("after HAS n + 1", x.reached(), n == 9 ? 255 : 0);
            }
        }
        WalkerPlan x = new WalkerPlan();
        x.from(1);
        x.mark(0, 9);
        c.due("a second mark", x.mark(0, 2), true);
        x.add(HAS, 3);
        c.due("the second mark counts", x.walkers(), 0);
    }

    private static void promise2MarkRefusals() {
        c.part("promise 2, refusals");
        WalkerPlan x = new WalkerPlan();
        x.from(255);
        for (int v = 0; v < 8; v++) {
            x.mark(v, 4);
        }
        for (int v : NO_VERTEX) {
            c.due("mark(" + v + ", 9)", x.mark(v, 9), false);
        }
        for (int n : new int[] {-1, 10, 11, Integer.MIN_VALUE, Integer.MAX_VALUE}) {
            c.due("mark(3, " + n + ")", x.mark(3, n), false);
        }
        x.add(HAS, 4);
        c.due("no number fell", x.reached(), 255);
        x.add(HAS, 5);
        c.due("no number rose", x.reached(), 0);
    }

    private static void promise3Join() {
        c.part("promise 3");
        for (int a = 0; a < 8; a++) {
            for (int b = 0; b < 8; b++) {
                for (int l = 0; l < 2; l++) {
                    joinOne(a, b, l);
                }
            }
        }
        WalkerPlan x = new WalkerPlan();
        c.due("join(2, 5, 1)", x.join(2, 5, 1), true);
        c.due("the same again", x.join(2, 5, 1), false);
        c.due("edges()", x.edges(), 1);
        c.due("the other label", x.join(2, 5, 0), true);
        c.due("the other way", x.join(5, 2, 1), true);
        c.due("edges()", x.edges(), 3);
    }

    private static void joinOne(int a, int b, int l) {
        String call = "join(" + a + ", " + b + ", " + l + ")";
        WalkerPlan x = new WalkerPlan();
        x.from(255);
        c.due(call, x.join(a, b, l), a != b);
        c.due("edges() after " + call, x.edges(), a != b ? 1 : 0);
        x.add(OUT, l);
        c.due("between(a, b) after " + call, x.between(a, b), a != b ? 1 : 0);
        c.due("walkers() after " + call, x.walkers(), a != b ? 1 : 0);
        x.drop();
        x.add(OUT, 1 - l);
        c.due("the other label's walkers() after " + call, x.walkers(), 0);
    }

    private static void promise3JoinRefusals() {
        c.part("promise 3, refusals");
        WalkerPlan x = new WalkerPlan();
        x.from(255);
        x.add(BOTH, 2);
        for (int v : NO_VERTEX) {
            c.due("join(" + v + ", 1, 0)", x.join(v, 1, 0), false);
            c.due("join(1, " + v + ", 0)", x.join(1, v, 0), false);
            c.due("join(" + v + ", " + v + ", 0)", x.join(v, v, 0), false);
        }
        for (int l : new int[] {-1, 2, 3, Integer.MIN_VALUE, Integer.MAX_VALUE}) {
            c.due("join(0, 1, " + l + ")", x.join(0, 1, l), false);
        }
        c.due("edges()", x.edges(), 0);
        c.due("walkers()", x.walkers(), 0);
    }

    private static void promise3TenEdges() {
        c.part("promise 3, ten edges");
        WalkerPlan x = new WalkerPlan();
        for (int b = 1; b <= 5; b++) {
            c.due("join(0, " + b + ", 0)", x.join(0, b, 0), true);
            c.due("join(0, " + b + ", 1)", x.join(0, b, 1), true);
        }
        c.due("edges()", x.edges(), 10);
        c.due("an eleventh", x.join(6, 7, 0), false);
        c.due("edges()", x.edges(), 10);
        x.from(255);
        x.add(OUT, 2);
        c.due("walkers()", x.walkers(), 10);
        c.due("at(7)", x.at(7), 0);
        c.due("cut(0, 3, 1)", x.cut(0, 3, 1), true);
        c.due("room again", x.join(6, 7, 0), true);
        c.due("at(7)", x.at(7), 1);
        c.due("at(3)", x.at(3), 1);
        c.due("full again", x.join(0, 3, 1), false);
    }

    private static void promise4Cut() {
        c.part("promise 4");
        WalkerPlan x = new WalkerPlan();
        c.due("cut(0, 0, 0) of none", x.cut(0, 0, 0), false);
        c.due("cut(0, 1, 0) of none", x.cut(0, 1, 0), false);
        x.join(3, 4, 1);
        c.due("the other label", x.cut(3, 4, 0), false);
        c.due("label 2", x.cut(3, 4, 2), false);
        c.due("the other way", x.cut(4, 3, 1), false);
        c.due("another end", x.cut(3, 5, 1), false);
        c.due("another beginning", x.cut(2, 4, 1), false);
        for (int v : NO_VERTEX) {
            c.due("cut(" + v + ", 4, 1)", x.cut(v, 4, 1), false);
            c.due("cut(3, " + v + ", 1)", x.cut(3, v, 1), false);
            c.due("cut(3, 4, " + v + ")", x.cut(3, 4, v), false);
        }
        c.due("edges()", x.edges(), 1);
        c.due("cut(3, 4, 1)", x.cut(3, 4, 1), true);
        c.due("edges()", x.edges(), 0);
        c.due("cut again", x.cut(3, 4, 1), false);
        c.due("edges()", x.edges(), 0);
        c.due("join again", x.join(3, 4, 1), true);
    }

    private static void promise4CutKeepsTheOthers() {
        c.part("promise 4, the others");
        for (int gone = 0; gone < 7; gone++) {
            WalkerPlan x = new WalkerPlan();
            for (int a = 0; a < 7; a++) {
                x.join(a, a + 1, a % 2);
            }
            c.due("cut", x.cut(gone, gone + 1, gone % 2), true);
            c.due("edges()", x.edges(), 6);
            x.from(255);
            x.add(OUT, 2);
            for (int a = 0; a < 7; a++) {
                c.due("between(" + a + ", " + (a + 1) + ")", x.between(a, a + 1), a == gone ? 0 : 1);
            }
            for (int a = 0; a < 7; a++) {
                c.due("cut of each", x.cut(a, a + 1, a % 2), a != gone);
            }
            c.due("edges()", x.edges(), 0);
        }
    }

    private static void promise5Add() {
        c.part("promise 5");
        for (int kind = OUT; kind <= ONE; kind++) {
            int most = kind <= MAYBE ? 2 : 9;
            for (int n = 0; n <= most; n++) {
                WalkerPlan x = new WalkerPlan();
                c.due("add(" + kind + ", " + n + ")", x.add(kind, n), 1);
                c.due("add again", x.add(kind, n), 2);
                c.due("after(2)", x.after(2), 0);
                c.due("after(3)", x.after(3), NONE);
            }
        }
        for (int kind = AWAY; kind <= ONE; kind++) {
            for (int n : new int[] {-1, 3, 10, Integer.MIN_VALUE, Integer.MAX_VALUE}) {
                WalkerPlan x = new WalkerPlan();
                x.from(6);
                c.due("add(" + kind + ", " + n + ")", x.add(kind, n), 1);
                c.due("n is not used", x.walkers(), kind == AWAY ? 0 : 2);
            }
        }
    }

    private static void promise5AddRefusals() {
        c.part("promise 5, refusals");
        WalkerPlan x = new WalkerPlan();
        x.from(1);
        for (int kind : new int[] {-1, 8, 9, Integer.MIN_VALUE, Integer.MAX_VALUE}) {
            c.due("add(" + kind + ", 0)", x.add(kind, 0), NONE);
        }
        for (int n : new int[] {-1, 3, 9, Integer.MIN_VALUE, Integer.MAX_VALUE}) {
            for (int kind = OUT; kind <= MAYBE; kind++) {
                c.due("add(" + kind + ", " + n + ")", x.add(kind, n), NONE);
            }
        }
        for (int n : new int[] {-1, 10, Integer.MIN_VALUE, Integer.MAX_VALUE}) {
            c.due("add(HAS, " + n + ")", x.add(HAS, n), NONE);
        }
        c.due("after(1)", x.after(1), NONE);
        c.due("walkers()", x.walkers(), 1);
    }

    private static void promise5AddFull() {
        c.part("promise 5, full");
        WalkerPlan x = new WalkerPlan();
        x.from(255);
        for (int k = 1; k <= 6; k++) {
            c.due("add(HOME, 0)", x.add(HOME, 0), k);
        }
        c.due("a seventh", x.add(AWAY, 0), FULL);
        c.due("a seventh with label 2", x.add(OUT, 2), FULL);
        c.due("a wrong kind comes before FULL", x.add(8, 0), NONE);
        c.due("a wrong kind comes before FULL", x.add(-1, 0), NONE);
        c.due("a wrong label comes before FULL", x.add(MAYBE, 3), NONE);
        c.due("a wrong number comes before FULL", x.add(HAS, 10), NONE);
        c.due("nothing was added", x.walkers(), 8);
        c.due("after(7)", x.after(7), NONE);
        c.due("drop()", x.drop(), 5);
        c.due("room again", x.add(AWAY, 0), 6);
        c.due("walkers()", x.walkers(), 0);
    }

    private static void promise6Drop() {
        c.part("promise 6");
        WalkerPlan x = new WalkerPlan();
        c.due("drop() of none", x.drop(), NONE);
        x.from(1);
        x.join(0, 1, 0);
        x.join(1, 2, 0);
        x.add(OUT, 0);
        x.add(OUT, 0);
        x.add(HOME, 0);
        c.due("reached()", x.reached(), 0);
        c.due("drop()", x.drop(), 2);
        c.due("reached()", x.reached(), 4);
        c.due("drop()", x.drop(), 1);
        c.due("reached()", x.reached(), 2);
        c.due("after(2)", x.after(2), NONE);
        c.due("drop()", x.drop(), 0);
        c.due("reached()", x.reached(), 1);
        c.due("drop()", x.drop(), NONE);
        c.due("drop()", x.drop(), NONE);
        c.due("add starts from one again", x.add(ONE, 0), 1);
        for (int k = 2; k <= 6; k++) {
            x.add(ONE, 0);
        }
        for (int k = 5; k >= 0; k--) {
            c.due("drop() from six", x.drop(), k);
        }
    }

    private static void promise7From() {
        c.part("promise 7");
        WalkerPlan x = new WalkerPlan();
        for (int set = 0; set <= 255; set += 5) {
            c.due("from(" + set + ")", x.from(set), true);
            c.due("reached()", x.reached(), set);
            c.due("walkers()", x.walkers(), Integer.bitCount(set));
        }
        x.from(90);
        for (int set : new int[] {-1, 256, 257, 511, Integer.MIN_VALUE, Integer.MAX_VALUE}) {
            c.due("from(" + set + ")", x.from(set), false);
            c.due("nothing changed", x.reached(), 90);
        }
        c.due("from(0)", x.from(0), true);
        c.due("walkers()", x.walkers(), 0);
    }

    /** Two ways from 0 to 3, one from 1 to 3, one from 1 to 0; 2 starts nothing that lasts two steps. */
    private static WalkerPlan diamond() {
        WalkerPlan x = new WalkerPlan();
        x.join(0, 4, 0);
        x.join(0, 5, 1);
        x.join(4, 3, 0);
        x.join(5, 3, 0);
        x.join(1, 4, 0);
        x.join(1, 6, 1);
        x.join(6, 0, 1);
        x.join(2, 7, 0);
        x.from(7);
        x.add(OUT, 2);
        x.add(OUT, 2);
        return x;
    }

    private static void promise8At() {
        c.part("promise 8");
        WalkerPlan x = diamond();
        int[] due = {1, 0, 0, 3, 0, 0, 0, 0};
        for (int v = 0; v < 8; v++) {
            c.due("at(" + v + ")", x.at(v), due[v]);
        }
        for (int v : NO_VERTEX) {
            c.due("at(" + v + ")", x.at(v), 0);
        }
        c.due("asking changes nothing", x.at(3), 3);
        x.drop();
        c.due("at(4)", x.at(4), 2);
        c.due("at(7)", x.at(7), 1);
    }

    private static void promise9Walkers() {
        c.part("promise 9");
        WalkerPlan x = diamond();
        c.due("walkers()", x.walkers(), 4);
        c.due("walkers() again", x.walkers(), 4);
        x.drop();
        c.due("walkers()", x.walkers(), 5);
        x.drop();
        c.due("walkers()", x.walkers(), 3);
        // Four edges between each of 0-1 and 0-2 and two between 0-3: 4*4 + 4*4 + 2*2 ways there and back.
        WalkerPlan y = new WalkerPlan();
        for (int l = 0; l < 2; l++) {
            y.join(0, 1, l);
            y.join(1, 0, l);
            y.join(0, 2, l);
            y.join(2, 0, l);
            y.join(0, 3, l);
        }
        y.from(1);
        for (int k = 0; k < 6; k++) {
            y.add(BOTH, 2);
        }
        c.due("walkers() of many", y.walkers(), 36 * 36 * 36);
    }

    private static void promise10After() {
        c.part("promise 10");
        WalkerPlan x = diamond();
        x.add(HOME, 0);
        c.due("after(0)", x.after(0), 3);
        c.due("after(1)", x.after(1), 5);
        c.due("after(2)", x.after(2), 4);
        c.due("after(3)", x.after(3), 0);
        for (int k : new int[] {-1, 4, 6, 7, Integer.MIN_VALUE, Integer.MAX_VALUE}) {
            c.due("after(" + k + ")", x.after(k), NONE);
        }
        x.drop();
        c.due("after(3) when two are left", x.after(3), NONE);
        c.due("the whole plan still counts", x.walkers(), 4);
        for (int k = 3; k <= 6; k++) {
            x.add(ONE, 0);
        }
        c.due("after(6)", x.after(6), 2);
        c.due("after(7)", x.after(7), NONE);
    }

    private static void promise11Between() {
        c.part("promise 11");
        WalkerPlan x = diamond();
        for (int s = 0; s < 8; s++) {
            for (int v = 0; v < 8; v++) {
                int due = s == 0 && v == 3 ? 2 : s == 1 && (v == 3 || v == 0) ? 1 : 0;
                c.due("between(" + s + ", " + v + ")", x.between(s, v), due);
            }
        }
        for (int w : NO_VERTEX) {
            for (int v = 0; v < 8; v++) {
                c.due("between(" + w + ", " + v + ")", x.between(w, v), 0);
                c.due("between(" + v + ", " + w + ")", x.between(v, w), 0);
            }
            c.due("between(" + w + ", " + w + ")", x.between(w, w), 0);
        }
    }

    private static void promise12Reached() {
        c.part("promise 12");
        WalkerPlan x = diamond();
        c.due("reached()", x.reached(), 1 << 0 | 1 << 3);
        x.drop();
        c.due("reached()", x.reached(), 1 << 4 | 1 << 5 | 1 << 6 | 1 << 7);
        x.drop();
        c.due("reached()", x.reached(), 7);
        x.from(0);
        c.due("reached()", x.reached(), 0);
    }

    private static void promise13StartsAt() {
        c.part("promise 13");
        WalkerPlan x = diamond();
        int[] due = {1 << 1, 0, 0, 1 << 0 | 1 << 1, 0, 0, 0, 0};
        for (int v = 0; v < 8; v++) {
            c.due("startsAt(" + v + ")", x.startsAt(v), due[v]);
        }
        for (int v : NO_VERTEX) {
            c.due("startsAt(" + v + ")", x.startsAt(v), 0);
        }
        x.drop();
        c.due("startsAt(4)", x.startsAt(4), 3);
        c.due("startsAt(7)", x.startsAt(7), 4);
        x.drop();
        x.from(255);
        c.due("startsAt(7)", x.startsAt(7), 128);
    }

    private static void promise14DiesAfter() {
        c.part("promise 14");
        WalkerPlan x = new WalkerPlan();
        c.due("no starts", x.diesAfter(), 0);
        x.add(ONE, 0);
        c.due("no starts, one step", x.diesAfter(), 0);
        x.drop();
        x.from(1);
        c.due("a start, no step", x.diesAfter(), NONE);
        x.join(0, 1, 0);
        x.join(1, 2, 0);
        c.due("add", x.add(OUT, 0), 1);
        c.due("one step", x.diesAfter(), NONE);
        x.add(OUT, 0);
        c.due("two steps", x.diesAfter(), NONE);
        x.add(OUT, 0);
        c.due("dies at the last step", x.diesAfter(), 3);
        x.add(OUT, 0);
        x.add(ONE, 0);
        c.due("the least number counts", x.diesAfter(), 3);
        c.due("the plan is unchanged", x.add(ONE, 0), 6);
        x.join(2, 0, 0);
        x.join(2, 3, 0);
        c.due("lives through six", x.diesAfter(), NONE);
        x.drop();
        x.add(AWAY, 0);
        c.due("lives with less", x.diesAfter(), NONE);
        x.drop();
        x.add(HAS, 9);
        c.due("dies at the sixth", x.diesAfter(), 6);
        x.from(0);
        c.due("no starts, six steps", x.diesAfter(), 0);
    }

    private static void promise15Edges() {
        c.part("promise 15");
        WalkerPlan x = new WalkerPlan();
        for (int k = 0; k < 7; k++) {
            c.due("edges()", x.edges(), k);
            x.join(k, k + 1, 0);
        }
        c.due("edges()", x.edges(), 7);
        x.join(0, 1, 0);
        c.due("a refused join counts nothing", x.edges(), 7);
        x.cut(0, 1, 1);
        c.due("a refused cut counts nothing", x.edges(), 7);
        x.cut(0, 1, 0);
        c.due("edges()", x.edges(), 6);
        x.from(255);
        x.add(IN, 0);
        x.walkers();
        c.due("walking changes no edge", x.edges(), 6);
    }
}
