import java.util.ArrayList;
import java.util.List;

/**
 * All that an object answers behind some calls. Each part is asked of an object of its own, so that
 * none has more than 512 calls (a part has at most 350; leave some 150 for what is done before).
 */
final class Answers {
    /** Calls on an object. */
    interface Step {
        void on(BusThrees x);
    }

    private static final int[] SECONDS = {0, 99, 130, 300, 601, 1000, 2000, 7200, 9000, 20000};

    private final List<String> rows = new ArrayList<>();

    private Answers() {
    }

    static List<String> behind(Step step) {
        Answers a = new Answers();
        a.numbers(made(step));
        a.visits(made(step), 0, 2);
        a.visits(made(step), 3, 5);
        a.boards(made(step));
        a.costs(made(step));
        a.whatChangesTell(made(step));
        a.signs(made(step));
        return a.rows;
    }

    /** The first row in which two differ, or "" if none. */
    static String difference(List<String> one, List<String> other) {
        for (int i = 0; i < one.size() && i < other.size(); i++) {
            if (!one.get(i).equals(other.get(i))) {
                return one.get(i) + " | " + other.get(i);
            }
        }
        return one.size() == other.size() ? "" : "one has more rows";
    }

    private static BusThrees made(Step step) {
        BusThrees x = new BusThrees();
        step.on(x);
        return x;
    }

    private void row(String call, long answer) {
        rows.add(call + " = " + answer);
    }

    private void numbers(BusThrees x) {
        for (int what = 0; what < 9; what++) {
            row("told(" + what + ")", x.told(what));
        }
        row("fault()", x.fault());
        row("began()", x.began());
        for (int what = 0; what < 2; what++) {
            row("one(" + what + ")", x.one(what));
            row("best(" + what + ")", x.best(what));
        }
        for (int what = 0; what < 3; what++) {
            row("all(" + what + ")", x.all(what));
        }
        for (int stop = 0; stop < 9; stop++) {
            gapsAndWaits(x, stop);
        }
    }

    private void gapsAndWaits(BusThrees x, int stop) {
        for (int k = 0; k < 9; k++) {
            row("follow(" + stop + ", " + k + ")", x.follow(stop, k));
        }
        row("spread(" + stop + ")", x.spread(stop));
        for (int what = 0; what < 3; what++) {
            row("waited(" + stop + ", " + what + ")", x.waited(stop, what));
        }
        for (int what = 0; what < 2; what++) {
            row("mean(" + stop + ", " + what + ", 0)", x.mean(stop, what, 0));
            row("mean(" + stop + ", " + what + ", 1)", x.mean(stop, what, 1));
        }
    }

    private void visits(BusThrees x, int fromWhat, int toWhat) {
        for (int bus = 0; bus < 8; bus++) {
            for (int stop = 0; stop < 10; stop++) {
                for (int what = fromWhat; what <= toWhat; what++) {
                    row("at(" + bus + ", " + stop + ", " + what + ")", x.at(bus, stop, what));
                }
            }
        }
    }

    private void boards(BusThrees x) {
        for (int stop = 1; stop < 10; stop++) {
            for (int second : SECONDS) {
                for (int what = 0; what < 3; what++) {
                    row("board(" + stop + ", " + second + ", " + what + ")", x.board(stop, second, what));
                }
            }
        }
    }

    private void costs(BusThrees x) {
        for (int bus = 0; bus < 8; bus++) {
            for (int stop = 0; stop < 9; stop++) {
                row("held(" + bus + ", " + stop + ", 77)", x.held(bus, stop, 77));
            }
        }
    }

    /** What was set is told only by the call that sets it anew. */
    private void whatChangesTell(BusThrees x) {
        for (int stop = 0; stop < 9; stop++) {
            row("RIDE of " + stop, x.stop(stop, 0, 10));
            row("GAP of " + stop, x.stop(stop, 1, 10));
            row("TRIP of " + stop, x.stop(stop, 2, 9));
        }
        for (int which = 0; which < 5; which++) {
            row("set(" + which + ", 0)", x.set(which, 0));
        }
        for (int bus = 0; bus < 8; bus++) {
            row("turn(" + bus + ", 9)", x.turn(bus, 9));
        }
        row("free()", x.free());
        for (int n = 0; n < 11; n++) {
            row("mend()", x.mend());
        }
        row("wipe()", x.wipe());
        row("bus(7200, 80)", x.bus(7200, 80));
        row("late(0, 0, 1)", x.late(0, 0, 1));
        for (int bus = 0; bus < 8; bus++) {
            row("who gets on " + bus, x.at(bus, 0, 2));
        }
    }

    /** Which signs they are is seen by the RULE that they make. */
    private void signs(BusThrees x) {
        row("rule()", x.rule());
        for (int bus = 0; bus < 8; bus++) {
            for (int stop = 0; stop < 9; stop++) {
                row("by the signs' RULE at(" + bus + ", " + stop + ", 1)", x.at(bus, stop, 1));
            }
        }
        row("say(59) then", x.say(';'));
        row("say(57) then", x.say('9'));
        row("fault() then", x.fault());
    }
}
