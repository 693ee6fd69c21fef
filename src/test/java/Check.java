/** Counts answers that are not as due; the test ends with exit code 1 if there was one. */
final class Check {
    /** What held and board answer where -1 to -6 could be true differences. */
    static final int NOT_TOLD = -2000000000;

    private final String test;
    private int checked;
    private int wrong;

    Check(String test) {
        this.test = test;
    }

    void due(String call, long got, long want) {
        checked++;
        if (got != want) {
            wrong++;
            System.out.println(test + ": " + call + " answered " + got + ", due is " + want);
        }
    }

    void holds(String what, boolean is) {
        due(what, is ? 1 : 0, 1);
    }

    int wrongSoFar() {
        return wrong;
    }

    void end() {
        System.out.println(test + ": " + checked + " checked, " + wrong + " wrong");
        if (wrong != 0) {
            System.exit(1);
        }
    }

    /** Says all signs of a text and checks that none is refused. */
    void say(BusThrees x, String text) {
        for (int i = 0; i < text.length(); i++) {
            due("say(" + (int) text.charAt(i) + ") of " + text, x.say(text.charAt(i)), x.told(2));
        }
    }

    /** Makes a text the RULE. */
    void rule(BusThrees x, String text) {
        x.wipe();
        say(x, text);
        due("rule() of " + text, x.rule(), text.split(";", -1).length);
    }

    /** What at() tells of a BUS at a STOP: comes, leaves, on, off, in it, left waiting. */
    void visit(BusThrees x, int bus, int stop, int... want) {
        for (int what = 0; what < want.length; what++) {
            due("at(" + bus + ", " + stop + ", " + what + ")", x.at(bus, stop, what), want[what]);
        }
    }

    /** The STOP and the BUS of ONE. */
    void ones(BusThrees x, int stop, int bus) {
        due("one(0)", x.one(0), stop);
        due("one(1)", x.one(1), bus);
    }

    /** What was WAITED at a STOP: how many, seconds together, the longest. */
    void waits(BusThrees x, int stop, int count, int seconds, int longest) {
        due("waited(" + stop + ", 0)", x.waited(stop, 0), count);
        due("waited(" + stop + ", 1)", x.waited(stop, 1), seconds);
        due("waited(" + stop + ", 2)", x.waited(stop, 2), longest);
    }

    /** A mean as a fraction. */
    void means(BusThrees x, int stop, int what, long upper, long lower) {
        due("mean(" + stop + ", " + what + ", 0)", x.mean(stop, what, 0), upper);
        due("mean(" + stop + ", " + what + ", 1)", x.mean(stop, what, 1), lower);
    }

    /** ALL. */
    void alls(BusThrees x, int waited, int rode, int stranded) {
        due("all(0)", x.all(0), waited);
        due("all(1)", x.all(1), rode);
        due("all(2)", x.all(2), stranded);
    }

    /** A BOARD: the seconds, the BUS, by how much it LIES. */
    void boards(BusThrees x, int stop, int second, int seconds, int bus, int lies) {
        String call = "board(" + stop + ", " + second + ", ";
        due(call + "0)", x.board(stop, second, 0), seconds);
        due(call + "1)", x.board(stop, second, 1), bus);
        due(call + "2)", x.board(stop, second, 2), lies);
    }

    void boardsNothing(BusThrees x, int stop, int second) {
        boards(x, stop, second, BusThrees.NONE, BusThrees.NONE, NOT_TOLD);
    }

    /** BEST. */
    void bests(BusThrees x, int stop, int gap) {
        due("best(0)", x.best(0), stop);
        due("best(1)", x.best(1), gap);
    }
}
