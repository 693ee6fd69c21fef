import java.util.List;

/**
 * "Calls that are refused answer, the first of these that fits: UNKNOWN, OUTSIDE, STATE, FULL, NO. They change
 * nothing." Each refusal of the promises 2 to 24, with the number just outside and the farthest ones; behind each
 * the object answers all that a twin answers on which it was not tried.
 */
public final class RefusalsTest {
    private static final Check c = new Check("RefusalsTest");
    private static final int MIN = Integer.MIN_VALUE;
    private static final int MAX = Integer.MAX_VALUE;
    private static final int[] NO_GOING_STOPS = {MIN, -1, 9, 10, MAX};

    /** A call that is refused. */
    private interface Call {
        long on(BusThrees x);
    }

    private final String name;
    /** The object as it is when the call is tried: it was asked before. */
    private final Answers.Step state;
    private final int buses;
    private final boolean isFull;
    private final int latestSecond;
    private final List<String> untouched;

    private RefusalsTest(String name, Answers.Step made, int buses, boolean isFull, int latestSecond) {
        this.name = name;
        this.state = x -> {
            made.on(x);
            States.ask(x);
        };
        this.buses = buses;
        this.isFull = isFull;
        this.latestSecond = latestSecond;
        this.untouched = Answers.behind(made);
    }

    public static void main(String[] args) {
        RefusalsTest[] all = {new RefusalsTest("empty", States::empty, 0, false, 0),
            new RefusalsTest("some", States::some, 3, false, 700),
            new RefusalsTest("full", States::full, 8, true, 7200)};
        for (RefusalsTest test : all) {
            test.promise2Stop();
            test.promise3Bus();
            test.promise4Set();
            test.promise5Late();
            test.promise6Mend();
            test.promise7Turn();
            test.promise8At();
            test.promise9Say();
            test.promise12Rule();
            test.promise14Follow();
            test.promise15One();
            test.promise17Spread();
            test.promise18Waited();
            test.promise19Mean();
            test.promise20All();
            test.promise21Held();
            test.promise22Board();
            test.promise23Best();
            test.promise24Told();
        }
        c.end();
    }

    private void refused(String call, long want, Call how) {
        BusThrees x = new BusThrees();
        state.on(x);
        c.due(name + ": " + call, how.on(x), want);
        c.due(name + ": " + call + " again", how.on(x), want);
        List<String> behind = Answers.behind(y -> {
            state.on(y);
            how.on(y);
        });
        String difference = Answers.difference(untouched, behind);
        c.holds(name + ": " + call + " changes nothing: " + difference, difference.isEmpty());
    }

    private int[] noBuses() {
        return new int[] {MIN, -1, buses, buses + 1, MAX};
    }

    private void stop(int stop, int what, int v, int want) {
        refused("stop(" + stop + ", " + what + ", " + v + ")", want, x -> x.stop(stop, what, v));
    }

    private void promise2Stop() {
        for (int stop : NO_GOING_STOPS) {
            stop(stop, 0, 10, BusThrees.UNKNOWN);
            stop(stop, 1, 0, BusThrees.UNKNOWN);
            stop(stop, 2, 1, BusThrees.UNKNOWN);
            stop(stop, 3, 10, BusThrees.UNKNOWN);
            stop(stop, 0, 9, BusThrees.UNKNOWN);
        }
        for (int what : new int[] {MIN, -1, 3, MAX}) {
            stop(0, what, 10, BusThrees.OUTSIDE);
            stop(8, what, 3, BusThrees.OUTSIDE);
        }
        for (int stop : new int[] {0, 8}) {
            for (int ride : new int[] {MIN, -10, -1, 0, 9, 901, MAX}) {
                stop(stop, 0, ride, BusThrees.OUTSIDE);
            }
            for (int gap : new int[] {MIN, -10, -1, 1, 9, 901, MAX}) {
                stop(stop, 1, gap, BusThrees.OUTSIDE);
            }
            for (int trip : new int[] {MIN, -1, 0, 10, MAX}) {
                stop(stop, 2, trip, BusThrees.OUTSIDE);
            }
        }
    }

    private void bus(int second, int seats, int want) {
        refused("bus(" + second + ", " + seats + ")", want, x -> x.bus(second, seats));
    }

    private void promise3Bus() {
        for (int second : new int[] {MIN, -1, latestSecond - 1, 7201, MAX}) {
            bus(second, 10, BusThrees.OUTSIDE);
        }
        for (int seats : new int[] {MIN, -1, 0, 81, MAX}) {
            bus(7200, seats, BusThrees.OUTSIDE);
        }
        if (isFull) {
            bus(7200, 1, BusThrees.FULL);
            bus(7200, 80, BusThrees.FULL);
        }
    }

    private void set(int which, int v) {
        refused("set(" + which + ", " + v + ")", BusThrees.OUTSIDE, x -> x.set(which, v));
    }

    private void promise4Set() {
        int[] most = {60, 10, 10, 1, 600};
        for (int which = 0; which < 5; which++) {
            for (int v : new int[] {MIN, -1, most[which] + 1, MAX}) {
                set(which, v);
            }
        }
        for (int which : new int[] {MIN, -1, 5, MAX}) {
            set(which, 0);
            set(which, 1);
        }
    }

    private void late(int bus, int stop, int seconds, int want) {
        refused("late(" + bus + ", " + stop + ", " + seconds + ")", want, x -> x.late(bus, stop, seconds));
    }

    private void promise5Late() {
        for (int bus : noBuses()) {
            late(bus, 0, 1, BusThrees.UNKNOWN);
            late(bus, 0, 0, BusThrees.UNKNOWN);
        }
        for (int stop : NO_GOING_STOPS) {
            late(0, stop, 1, BusThrees.UNKNOWN);
            late(0, stop, 901, BusThrees.UNKNOWN);
        }
        for (int seconds : new int[] {MIN, -1, 0, 901, MAX}) {
            late(0, 0, seconds, buses == 0 ? BusThrees.UNKNOWN : BusThrees.OUTSIDE);
        }
        if (isFull) {
            late(0, 0, 1, BusThrees.FULL);
            late(7, 8, 900, BusThrees.FULL);
        }
    }

    private void promise6Mend() {
        if (buses == 0) {
            refused("mend()", BusThrees.NO, x -> x.mend());
        }
    }

    private void turn(int bus, int stop, int want) {
        refused("turn(" + bus + ", " + stop + ")", want, x -> x.turn(bus, stop));
    }

    private void promise7Turn() {
        for (int bus : noBuses()) {
            turn(bus, 1, BusThrees.UNKNOWN);
            turn(bus, 9, BusThrees.UNKNOWN);
            turn(bus, 0, BusThrees.UNKNOWN);
        }
        for (int stop : new int[] {MIN, -1, 0, 10, MAX}) {
            turn(0, stop, buses == 0 ? BusThrees.UNKNOWN : BusThrees.OUTSIDE);
        }
    }

    private void at(int bus, int stop, int what, int want) {
        refused("at(" + bus + ", " + stop + ", " + what + ")", want, x -> x.at(bus, stop, what));
    }

    private void promise8At() {
        for (int bus : noBuses()) {
            at(bus, 0, 0, BusThrees.UNKNOWN);
            at(bus, 9, 6, BusThrees.UNKNOWN);
        }
        for (int stop : new int[] {MIN, -1, 10, MAX}) {
            at(0, stop, 0, BusThrees.UNKNOWN);
            at(0, stop, -1, BusThrees.UNKNOWN);
        }
        for (int what : new int[] {MIN, -1, 6, MAX}) {
            at(0, 0, what, buses == 0 ? BusThrees.UNKNOWN : BusThrees.OUTSIDE);
            at(0, 9, what, buses == 0 ? BusThrees.UNKNOWN : BusThrees.OUTSIDE);
        }
        if (buses == 3) {
            // BUS 1 is TURNED at STOP 6: that it does not come there is no refusal, that there is no such number is.
            at(1, 7, 6, BusThrees.OUTSIDE);
            at(1, 7, 5, BusThrees.NONE);
        }
    }

    private void promise9Say() {
        for (int sign : new int[] {MIN, -1, 0, 32, 127, 128, MAX}) {
            refused("say(" + sign + ")", BusThrees.OUTSIDE, x -> x.say(sign));
        }
        if (isFull) {
            refused("say(33)", BusThrees.FULL, x -> x.say(33));
            refused("say(126)", BusThrees.FULL, x -> x.say(126));
        }
    }

    private void promise12Rule() {
        if (!isFull) {
            refused("rule()", BusThrees.NO, x -> x.rule());
        }
    }

    private void promise14Follow() {
        for (int stop : NO_GOING_STOPS) {
            refused("follow(" + stop + ", 0)", BusThrees.UNKNOWN, x -> x.follow(stop, 0));
            refused("follow(" + stop + ", 1)", BusThrees.UNKNOWN, x -> x.follow(stop, 1));
            refused("follow(" + stop + ", -1)", BusThrees.UNKNOWN, x -> x.follow(stop, -1));
        }
    }

    private void promise15One() {
        for (int what : new int[] {MIN, -1, 2, MAX}) {
            refused("one(" + what + ")", BusThrees.OUTSIDE, x -> x.one(what));
        }
    }

    private void promise17Spread() {
        for (int stop : NO_GOING_STOPS) {
            refused("spread(" + stop + ")", BusThrees.UNKNOWN, x -> x.spread(stop));
        }
    }

    private void waited(int stop, int what, int want) {
        refused("waited(" + stop + ", " + what + ")", want, x -> x.waited(stop, what));
    }

    private void promise18Waited() {
        for (int stop : NO_GOING_STOPS) {
            waited(stop, 0, BusThrees.UNKNOWN);
            waited(stop, 3, BusThrees.UNKNOWN);
        }
        for (int what : new int[] {MIN, -1, 3, MAX}) {
            waited(0, what, BusThrees.OUTSIDE);
            waited(8, what, BusThrees.OUTSIDE);
        }
    }

    private void mean(int stop, int what, int part, long want) {
        refused("mean(" + stop + ", " + what + ", " + part + ")", want, x -> x.mean(stop, what, part));
    }

    private void promise19Mean() {
        long unknown = -1000000000000000001L;
        long outside = -1000000000000000002L;
        for (int stop : NO_GOING_STOPS) {
            mean(stop, 0, 0, unknown);
            mean(stop, 1, 1, unknown);
            mean(stop, 2, 0, unknown);
            mean(stop, 0, 2, unknown);
        }
        for (int outOf : new int[] {MIN, -1, 2, MAX}) {
            mean(0, outOf, 0, outside);
            mean(8, outOf, 1, outside);
            mean(0, 0, outOf, outside);
            mean(8, 1, outOf, outside);
        }
    }

    private void promise20All() {
        for (int what : new int[] {MIN, -1, 3, MAX}) {
            refused("all(" + what + ")", BusThrees.OUTSIDE, x -> x.all(what));
        }
    }

    private void held(int bus, int stop, int seconds) {
        refused("held(" + bus + ", " + stop + ", " + seconds + ")", Check.NOT_TOLD, x -> x.held(bus, stop, seconds));
    }

    private void promise21Held() {
        for (int bus : noBuses()) {
            held(bus, 0, 1);
        }
        for (int stop : NO_GOING_STOPS) {
            held(0, stop, 1);
        }
        for (int seconds : new int[] {MIN, -1, 0, 901, MAX}) {
            held(0, 0, seconds);
        }
        if (buses == 3) {
            held(1, 7, 1);
            held(1, 8, 900);
        }
    }

    private void board(int stop, int second, int what, int want) {
        refused("board(" + stop + ", " + second + ", " + what + ")", want, x -> x.board(stop, second, what));
    }

    private void promise22Board() {
        for (int stop : new int[] {MIN, -1, 0, 10, MAX}) {
            board(stop, 0, 0, BusThrees.UNKNOWN);
            board(stop, 300, 1, BusThrees.UNKNOWN);
            board(stop, 300, 2, BusThrees.UNKNOWN);
            board(stop, -1, 0, BusThrees.UNKNOWN);
            board(stop, 0, 3, BusThrees.UNKNOWN);
        }
        for (int second : new int[] {MIN, -1, 20001, MAX}) {
            for (int what = 0; what < 3; what++) {
                board(1, second, what, BusThrees.OUTSIDE);
                board(9, second, what, BusThrees.OUTSIDE);
            }
        }
        for (int what : new int[] {MIN, -1, 3, MAX}) {
            board(1, 0, what, BusThrees.OUTSIDE);
            board(9, 300, what, BusThrees.OUTSIDE);
        }
    }

    private void promise23Best() {
        for (int what : new int[] {MIN, -1, 2, MAX}) {
            refused("best(" + what + ")", BusThrees.OUTSIDE, x -> x.best(what));
        }
        if (buses == 0) {
            refused("best(0)", BusThrees.STATE, x -> x.best(0));
            refused("best(1)", BusThrees.STATE, x -> x.best(1));
        }
    }

    private void promise24Told() {
        for (int what : new int[] {MIN, -1, 9, MAX}) {
            refused("told(" + what + ")", BusThrees.OUTSIDE, x -> x.told(what));
        }
    }
}
