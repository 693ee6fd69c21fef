/** Made-up runs of calls, each answer beside that of Naive; the numbers are the same each time. */
public final class NaiveTest {
    private static final int RUNS = 700;
    private static final int CALLS = 110;
    private static final Check c = new Check("NaiveTest");
    private static final String[] NAMES = {"stop", "bus", "set", "late", "mend", "turn", "at", "say", "wipe", "fault",
        "rule", "free", "follow", "one", "began", "spread", "waited", "mean", "all", "held", "board", "best", "told"};

    private long seed;

    private NaiveTest(long seed) {
        this.seed = seed * 0x9E3779B97F4A7C15L + 1;
    }

    public static void main(String[] args) {
        int runs = args.length > 0 ? Integer.parseInt(args[0]) : RUNS;
        int from = args.length > 1 ? Integer.parseInt(args[1]) : 0;
        for (int run = from; run < from + runs && c.wrongSoFar() < 20; run++) {
            new NaiveTest(run).play(run);
        }
        c.end();
    }

    /** A number from 0 to n - 1. */
    private int any(int n) {
        seed = seed * 6364136223846793005L + 1442695040888963407L;
        return (int) ((seed >>> 33) % n);
    }

    private int between(int least, int most) {
        return least + any(most - least + 1);
    }

    private int pick(int... of) {
        return of[any(of.length)];
    }

    private void play(int run) {
        BusThrees x = new BusThrees();
        Naive y = new Naive();
        StringBuilder said = new StringBuilder();
        int style = any(4);
        prepare(run, x, y, style, said);
        for (int i = 0; i < CALLS && c.wrongSoFar() < 20; i++) {
            int name = any(8) == 0 ? any(7) : any(NAMES.length);
            if (name == 21 && any(6) != 0) {
                name = 19;
            }
            if (name == 10 && any(2) == 0) {
                sayRule(run, x, y, said);
            }
            int[] a = arguments(name);
            if (name == 20 && any(2) == 0) {
                a[1] = momentOf(y);
            }
            both(run, x, y, name, said, a);
        }
    }

    /** A second at which some BUS comes or leaves, or one beside it: there a BOARD changes. */
    private int momentOf(Naive y) {
        return (int) y.at(any(8), any(10), any(2)) + between(-1, 1);
    }

    /** A line that is worth looking at: BUSES near each other, people at most STOPS. */
    private void prepare(int run, BusThrees x, Naive y, int style, StringBuilder said) {
        int second = any(400);
        int buses = between(0, 8);
        for (int i = 0; i < buses; i++) {
            both(run, x, y, 1, said, second, style == 0 ? between(1, 6) : between(1, 80), 0);
            second += style == 1 ? any(30) : style == 2 ? any(900) : any(200);
        }
        for (int stop = 0; stop < 9; stop++) {
            if (any(3) != 0) {
                both(run, x, y, 0, said, stop, 1, style == 0 ? between(10, 60) : between(10, 300));
                both(run, x, y, 0, said, stop, 2, between(1, 9));
            }
            if (any(3) == 0) {
                both(run, x, y, 0, said, stop, 0, between(10, 300));
            }
        }
        both(run, x, y, 2, said, 3, any(2), 0);
        if (any(2) == 0) {
            sayRule(run, x, y, said);
            both(run, x, y, 10, said, 0, 0, 0);
        }
    }

    private void sayRule(int run, BusThrees x, Naive y, StringBuilder said) {
        both(run, x, y, 8, said, 0, 0, 0);
        int lines = any(4) == 0 ? 10 : between(1, 3);
        StringBuilder text = new StringBuilder();
        int first = any(10);
        for (int i = 0; i < lines; i++) {
            text.append(i == 0 ? "" : ";").append((first + i * 3) % 10).append(any(2) == 0 ? 'c' : 'g');
            text.append(lines == 10 ? any(10) : any(any(2) == 0 ? 1000 : 100));
        }
        if (any(8) == 0) {
            text.setCharAt(any(text.length()), (char) between(33, 126));
        }
        for (int i = 0; i < text.length(); i++) {
            both(run, x, y, 7, said, text.charAt(i), 0, 0);
        }
        both(run, x, y, 9, said, 0, 0, 0);
    }

    private int[] arguments(int name) {
        int odd = any(12) == 0 ? pick(-1, 1, 10, 9, Integer.MAX_VALUE, Integer.MIN_VALUE) : 0;
        switch (name) {
            case 0:
                return new int[] {between(-1, 9), between(-1, 3), pick(0, 1, 9, 10, 60, 30, 900, 901, any(900), any(10))};
            case 1:
                return new int[] {pick(any(7300), any(600), 7200), pick(0, 1, 80, 81, any(80)), 0};
            case 2:
                return new int[] {between(-1, 5), pick(-1, 0, 1, 2, 10, 11, 60, 61, 600, 601, any(60)), 0};
            case 3:
                return new int[] {between(-1, 7), between(-1, 9), pick(0, 1, 900, 901, any(900), any(100), any(100))};
            case 5:
                return new int[] {between(-1, 7), between(-1, 10), 0};
            case 6:
                return new int[] {between(-1, 8), between(-1, 10), between(-1, 6) + odd};
            case 7:
                return new int[] {pick(32, 33, 126, 127, '0', '1', '5', '9', 'c', 'g', ';'), 0, 0};
            case 12:
                return new int[] {between(-1, 9), between(-1, 8) + odd, 0};
            case 16:
            case 17:
                return new int[] {between(-1, 9), between(-1, 3), between(-1, 2)};
            case 19:
                return new int[] {between(-1, 8), between(-1, 10), pick(0, 1, 900, 901, any(900), any(100))};
            case 20:
                return new int[] {between(-1, 10), pick(-1, 0, 20000, 20001, any(2500), any(2500)), between(-1, 3)};
            default:
                return new int[] {between(-1, 9) + odd, 0, 0};
        }
    }

    private void both(int run, BusThrees x, Naive y, int name, StringBuilder said, int... a) {
        String call = NAMES[name] + "(" + a[0] + ", " + a[1] + ", " + a[2] + ")";
        int before = c.wrongSoFar();
        c.due("run " + run + ": " + call, answer(x, name, a), naive(y, name, a));
        said.append(call).append("; ");
        if (c.wrongSoFar() > before && before == 0) {
            System.out.println("  behind: " + said);
        }
    }

    private static long answer(BusThrees x, int name, int[] a) {
        switch (name) {
            case 0: return x.stop(a[0], a[1], a[2]);
            case 1: return x.bus(a[0], a[1]);
            case 2: return x.set(a[0], a[1]);
            case 3: return x.late(a[0], a[1], a[2]);
            case 4: return x.mend();
            case 5: return x.turn(a[0], a[1]);
            case 6: return x.at(a[0], a[1], a[2]);
            case 7: return x.say(a[0]);
            case 8: return x.wipe();
            case 9: return x.fault();
            case 10: return x.rule();
            case 11: return x.free();
            case 12: return x.follow(a[0], a[1]);
            case 13: return x.one(a[0]);
            case 14: return x.began();
            case 15: return x.spread(a[0]);
            case 16: return x.waited(a[0], a[1]);
            case 17: return x.mean(a[0], a[1], a[2]);
            case 18: return x.all(a[0]);
            case 19: return x.held(a[0], a[1], a[2]);
            case 20: return x.board(a[0], a[1], a[2]);
            case 21: return x.best(a[0]);
            default: return x.told(a[0]);
        }
    }

    private static long naive(Naive y, int name, int[] a) {
        switch (name) {
            case 0: return y.stop(a[0], a[1], a[2]);
            case 1: return y.bus(a[0], a[1]);
            case 2: return y.set(a[0], a[1]);
            case 3: return y.late(a[0], a[1], a[2]);
            case 4: return y.mend();
            case 5: return y.turn(a[0], a[1]);
            case 6: return y.at(a[0], a[1], a[2]);
            case 7: return y.say(a[0]);
            case 8: return y.wipe();
            case 9: return y.fault();
            case 10: return y.rule();
            case 11: return y.free();
            case 12: return y.follow(a[0], a[1]);
            case 13: return y.one(a[0]);
            case 14: return y.began();
            case 15: return y.spread(a[0]);
            case 16: return y.waited(a[0], a[1]);
            case 17: return y.mean(a[0], a[1], a[2]);
            case 18: return y.all(a[0]);
            case 19: return y.held(a[0], a[1], a[2]);
            case 20: return y.board(a[0], a[1], a[2]);
            case 21: return y.best(a[0]);
            default: return y.told(a[0]);
        }
    }
}
