/** Counts answers that are not as due; the test ends with exit code 1 if there was one. */
final class Check {
    private final String test;
    private int checked;
    private int wrong;

    Check(String test) {
        this.test = test;
    }

    void due(String call, long got, long want) {
        checked++;
        if (got != want) {
            wrong++;
            System.out.println(test + ": " + call + " answered " + got + ", due is " + want);
        }
    }

    void holds(String what, boolean is) {
        due(what, is ? 1 : 0, 1);
    }

    int wrongSoFar() {
        return wrong;
    }

    void end() {
        System.out.println(test + ": " + checked + " checked, " + wrong + " wrong");
        if (wrong != 0) {
            System.exit(1);
        }
    }

    /** Says all signs of a text and checks that none is refused. */
    void say(BusThrees x, String text) {
        for (int i = 0; i < text.length(); i++) {
            due("say(" + (int) text.charAt(i) + ") of " + text, x.say(text.charAt(i)), x.told(2));
        }
    }

    /** Makes a text the RULE. */
    void rule(BusThrees x, String text) {
        x.wipe();
        say(x, text);
        due("rule() of " + text, x.rule(), text.split(";", -1).length);
    }

    /** What at() tells of a BUS at a STOP: comes, leaves, on, off, in it, left waiting. */
    void visit(BusThrees x, int bus, int stop, int... want) {
        for (int what = 0; what < want.length; what++) {
            due("at(" + bus + ", " + stop + ", " + what + ")", x.at(bus, stop, what), want[what]);
        }
    }
}
