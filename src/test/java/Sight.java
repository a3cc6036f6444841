import java.util.ArrayList;
import java.util.List;

/** What the later calls of an object show of its state: a row of named answers. */
final class Sight {
    private final BoatBridge x;
    private final List<String> rows = new ArrayList<>();

    private Sight(BoatBridge x) {
        this.x = x;
    }

    /** Some 330 calls, the last ones changing the object: it is not to be used behind them. */
    static List<String> of(BoatBridge x) {
        Sight sight = new Sight(x);
        sight.counts();
        sight.bridge();
        sight.openings();
        sight.days();
        sight.passes();
        sight.tape();
        return sight.rows;
    }

    private void row(String call, int answer) {
        rows.add(call + " = " + answer);
    }

    private void counts() {
        for (int what = 0; what <= 6; what++) {
            row("about(" + what + ")", x.about(what));
        }
        tolls();
    }

    private void tolls() {
        for (int kind = 0; kind < 6; kind++) {
            row("about(20 + " + kind + ")", x.about(20 + kind));
            row("about(30 + " + kind + ")", x.about(30 + kind));
        }
        row("fault(0)", x.fault(0));
        row("fault(1)", x.fault(1));
    }

    private void bridge() {
        for (int level = 0; level < 10; level++) {
            row("drags(" + level + ")", x.drags(level));
        }
        for (int k = 0; k < 12; k++) {
            for (int step : new int[] {0, 5, 11}) {
                row("pressed(" + k + ", " + step + ")", x.pressed(k, step));
            }
        }
        for (int what = 0; what < 3; what++) {
            row("worst(" + what + ")", x.worst(what));
        }
        row("gap()", x.gap());
    }

    private void openings() {
        row("waits()", x.waits());
        row("atOnce()", x.atOnce());
        for (int i = 0; i < 10; i++) {
            for (int what = 0; what < 3; what++) {
                row("opening(" + i + ", " + what + ")", x.opening(i, what));
            }
        }
    }

    private void days() {
        row("out()", x.out());
        for (int day = 0; day < 60; day++) {
            row("outOn(" + day + ", 0)", x.outOn(day, 0));
            row("outOn(" + day + ", 1)", x.outOn(day, 1));
        }
    }

    private void passes() {
        for (int minute : new int[] {0, 499, 500, 510, 9998, 9999}) {
            for (int kind = 0; kind < 6; kind++) {
                row("pass(" + kind + ", 0, " + minute + ")", x.pass(kind, 0, minute));
            }
            row("pass(0, 19, " + minute + ")", x.pass(0, 19, minute));
        }
        row("about(4) behind passes", x.about(4));
        row("about(5) behind passes", x.about(5));
    }

    private void tape() {
        row("tolls()", x.tolls());
        row("about(6) behind tolls", x.about(6));
        tolls();
    }
}
