import java.util.ArrayList;
import java.util.List;

/** All that an object's calls can tell of its state. Looking uses the object up: some 390 of its 512 calls. */
final class Look {
    private final List<String> rows = new ArrayList<>();
    private final WalkerPlan x;

    private Look(WalkerPlan x) {
        this.x = x;
    }

    static List<String> of(WalkerPlan x) {
        Look look = new Look(x);
        look.row("edges()", x.edges());
        look.pairs("the whole plan");
        look.plan();
        look.edges();
        look.numbers();
        return look.rows;
    }

    private void row(String what, int answer) {
        rows.add(what + ": " + answer);
    }

    private void pairs(String when) {
        for (int s = 0; s < 8; s++) {
            for (int v = 0; v < 8; v++) {
                row(when + ", between(" + s + ", " + v + ")", x.between(s, v));
            }
        }
    }

    /** Drops the steps one by one; what is left at the end are the starts. */
    private void plan() {
        for (int k = 0; k <= 7; k++) {
            row("after(" + k + ")", x.after(k));
        }
        for (int dropped = 0; dropped <= 6; dropped++) {
            String when = dropped + " steps dropped, ";
            for (int v = 0; v < 8; v++) {
                row(when + "at(" + v + ")", x.at(v));
                row(when + "startsAt(" + v + ")", x.startsAt(v));
            }
            row(when + "reached()", x.reached());
            row(when + "walkers()", x.walkers());
            row(when + "diesAfter()", x.diesAfter());
            row(when + "drop()", x.drop());
        }
    }

    private void edges() {
        x.from(255);
        for (int l = 0; l < 2; l++) {
            row("add(OUT, " + l + ")", x.add(State.OUT, l));
            pairs("one step OUT " + l);
            x.drop();
        }
    }

    private void numbers() {
        for (int n = 1; n <= 9; n++) {
            row("add(HAS, " + n + ")", x.add(State.HAS, n));
            row("one step HAS " + n + ", reached()", x.reached());
            x.drop();
        }
    }
}
