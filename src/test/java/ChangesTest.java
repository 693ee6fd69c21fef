import java.util.ArrayList;
import java.util.List;

/**
 * Which calls change what: those that only tell change nothing, in an empty, in some and in a full object; and what
 * was asked before a change does not answer for what is so behind it.
 */
public final class ChangesTest {
    private static final Check c = new Check("ChangesTest");
    private static final Answers.Step[] STATES = {States::empty, States::some, States::full};
    private static final String[] NAMES = {"empty", "some", "full"};

    private ChangesTest() {
    }

    public static void main(String[] args) {
        tellingChangesNothing();
        changesAreSeenBehindAsking();
        whatIsTakenBackLeavesNothing();
        objectsShareNothing();
        c.end();
    }

    private static void same(String what, List<String> one, List<String> other) {
        String difference = Answers.difference(one, other);
        c.holds(what + ": " + difference, difference.isEmpty());
    }

    private static List<Answers.Step> tellingCalls() {
        List<Answers.Step> calls = new ArrayList<>();
        for (int i = 0; i < 9; i++) {
            int n = i;
            calls.add(x -> x.at(n % 8, n, n % 6));
            calls.add(x -> x.follow(n, n % 3));
            calls.add(x -> x.spread(n));
            calls.add(x -> x.waited(n, n % 3));
            calls.add(x -> x.mean(n, n % 2, n % 2));
            calls.add(x -> x.held(n % 8, n, 100 * n));
            calls.add(x -> x.board(n + 1, 200 * n, n % 3));
            calls.add(x -> x.told(n));
        }
        for (int i = 0; i < 3; i++) {
            int n = i;
            calls.add(x -> x.all(n));
            calls.add(x -> x.one(n));
            calls.add(x -> x.best(n));
        }
        calls.add(x -> x.fault());
        calls.add(x -> x.began());
        return calls;
    }

    private static void tellingChangesNothing() {
        for (int s = 0; s < 3; s++) {
            Answers.Step state = STATES[s];
            List<String> untouched = Answers.behind(state);
            List<Answers.Step> calls = tellingCalls();
            for (int i = 0; i < calls.size(); i++) {
                Answers.Step call = calls.get(i);
                same(NAMES[s] + ": telling call " + i + " changes nothing", untouched, Answers.behind(x -> {
                    state.on(x);
                    call.on(x);
                }));
            }
        }
    }

    private static List<Answers.Step> changes() {
        List<Answers.Step> changes = new ArrayList<>();
        for (int i = 0; i < 9; i++) {
            int n = i;
            changes.add(x -> x.stop(n, 0, 333));
            changes.add(x -> x.stop(n, 1, 17));
            changes.add(x -> x.stop(n, 1, 0));
            changes.add(x -> x.stop(n, 2, 5));
        }
        int[] others = {3, 7, 0, 0, 200};
        for (int i = 0; i < 5; i++) {
            int n = i;
            changes.add(x -> x.set(n, others[n]));
        }
        changes.add(x -> x.set(3, 1));
        changes.add(x -> x.bus(7200, 3));
        changes.add(x -> x.late(0, 3, 200));
        changes.add(x -> x.mend());
        changes.add(x -> x.turn(0, 4));
        changes.add(x -> x.turn(1, 9));
        changes.add(x -> x.free());
        changes.add(x -> x.wipe());
        changes.add(x -> x.say('7'));
        changes.add(x -> x.rule());
        changes.add(x -> {
            x.say('7');
            x.rule();
        });
        return changes;
    }

    private static void changesAreSeenBehindAsking() {
        for (int s = 0; s < 3; s++) {
            Answers.Step state = STATES[s];
            List<Answers.Step> changes = changes();
            for (int i = 0; i < changes.size(); i++) {
                Answers.Step change = changes.get(i);
                List<String> unasked = Answers.behind(x -> {
                    state.on(x);
                    change.on(x);
                });
                same(NAMES[s] + ": change " + i + " is seen", unasked, Answers.behind(x -> {
                    state.on(x);
                    States.ask(x);
                    change.on(x);
                }));
            }
        }
    }

    /** A change and the change back: the object answers as before. */
    private static void whatIsTakenBackLeavesNothing() {
        List<String> some = Answers.behind(States::some);
        same("stop", some, Answers.behind(x -> {
            States.some(x);
            int ride = x.stop(0, 0, 900);
            int gap = x.stop(8, 1, 10);
            int trip = x.stop(5, 2, 9);
            States.ask(x);
            x.stop(0, 0, ride);
            x.stop(8, 1, gap);
            x.stop(5, 2, trip);
        }));
        same("set", some, Answers.behind(x -> {
            States.some(x);
            for (int which = 0; which < 5; which++) {
                int was = x.set(which, 1);
                States.ask(x);
                x.set(which, was);
            }
        }));
        same("late and mend", some, Answers.behind(x -> {
            States.some(x);
            for (int n = 2; n < 10; n++) {
                x.late(n % 3, n % 9, 900);
            }
            States.ask(x);
            for (int n = 2; n < 10; n++) {
                x.mend();
            }
        }));
        same("turn", some, Answers.behind(x -> {
            States.some(x);
            int first = x.turn(0, 1);
            int second = x.turn(1, 9);
            States.ask(x);
            x.turn(0, first);
            x.turn(1, second);
        }));
        same("wipe and say", some, Answers.behind(x -> {
            States.some(x);
            x.wipe();
            States.say(x, "4c");
        }));
        same("rule", some, Answers.behind(x -> {
            States.some(x);
            States.say(x, "1;7g5;0c70");
            x.rule();
            States.ask(x);
            States.say(x, "2g30;5c80");
            x.rule();
            States.say(x, "4c");
        }));
    }

    private static void objectsShareNothing() {
        List<String> untouched = Answers.behind(States::empty);
        BusThrees other = new BusThrees();
        States.full(other);
        States.ask(other);
        same("a new one beside a full one", untouched, Answers.behind(States::empty));
        List<String> full = Answers.behind(States::full);
        same("a full one beside new ones", full, Answers.behind(x -> {
            BusThrees beside = new BusThrees();
            States.full(x);
            States.some(beside);
            beside.wipe();
            beside.free();
        }));
    }
}
