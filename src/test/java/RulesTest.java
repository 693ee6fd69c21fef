/** Promises 9 to 13: rules. All numbers are worked out by hand from the document. */
public final class RulesTest {
    private static final Check c = new Check("RulesTest");

    private RulesTest() {
    }

    public static void main(String[] args) {
        promise9Say();
        promise10Wipe();
        promise11Fault();
        promise11FaultOfTenStops();
        promise12Rule();
        promise12ByTheClock();
        promise12ByTheGap();
        promise12GapWhoCameAhead();
        promise12NoWaitingAtTheEnd();
        promise13Free();
        c.end();
    }

    private static void promise9Say() {
        BusThrees x = new BusThrees();
        c.due("say(32)", x.say(32), BusThrees.OUTSIDE);
        c.due("say(127)", x.say(127), BusThrees.OUTSIDE);
        c.due("say(-1)", x.say(-1), BusThrees.OUTSIDE);
        c.due("say(MIN)", x.say(Integer.MIN_VALUE), BusThrees.OUTSIDE);
        c.due("say(MAX)", x.say(Integer.MAX_VALUE), BusThrees.OUTSIDE);
        c.due("told(2)", x.told(2), 0);
        c.due("say(33)", x.say(33), 1);
        for (int n = 2; n <= 40; n++) {
            c.due("say(126), the " + n + "th", x.say(126), n);
        }
        c.due("a 41st", x.say(48), BusThrees.FULL);
        c.due("a 41st that is OUTSIDE", x.say(32), BusThrees.OUTSIDE);
        c.due("told(2)", x.told(2), 40);
    }

    private static void promise10Wipe() {
        BusThrees x = new BusThrees();
        c.due("wipe() of none", x.wipe(), 0);
        c.rule(x, "3g20");
        c.say(x, "5c1;");
        c.due("wipe()", x.wipe(), 4);
        c.due("wipe() again", x.wipe(), 0);
        c.due("the RULE stays", x.told(3), 1);
        c.due("say(48) is the first again", x.say(48), 1);
    }

    private static void fault(String text, int want) {
        BusThrees x = new BusThrees();
        c.say(x, text);
        c.due("fault() of " + text, x.fault(), want);
        c.due("fault() of " + text + " again", x.fault(), want);
        c.due("signs stay", x.told(2), text.length());
        c.due("rule() of " + text, x.rule(), want == BusThrees.NONE ? text.split(";").length : BusThrees.NO);
        c.due("signs then", x.told(2), want == BusThrees.NONE ? 0 : text.length());
    }

    private static void promise11Fault() {
        String[] whole = {"0c0", "9g9", "5c000", "3g12", "0c5;4g300", "9c999;8g999;7c0", "1g1;0g1"};
        for (String text : whole) {
            fault(text, BusThrees.NONE);
        }
        String[] more = {"", "3", "3c", "3g", "3c1;", "3c12;", "3c123;", "3c123;4", "3c123;4g"};
        for (String text : more) {
            fault(text, text.length());
        }
        String[] wrongAtLast = {";", "c", "x", "/", ":", "!", "~", "33", "3x", "3C", "3G", "3;", "3c;", "3cc",
            "3c/", "3c:", "3cx", "3c1c", "3c1/", "3c12:", "3c1234", "3c123c", "3c1;;", "3c1;3", "3c1;c",
            "3c1;4c2;3", "3c1;4c2;4"};
        for (String text : wrongAtLast) {
            fault(text, text.length() - 1);
            if (text.length() < 40) {
                fault(text + "~", text.length() - 1);
                fault(text + "0c1", text.length() - 1);
            }
        }
        fault("3c1;3c1", 4);
        fault("!!", 0);
    }

    private static void promise11FaultOfTenStops() {
        String ten = "0c0;1c0;2c0;3c0;4c0;5c0;6c0;7c0;8c0;9c0";
        fault(ten, BusThrees.NONE);
        fault(ten + "5", BusThrees.NONE);
        fault(ten + ";", 39);
        fault(ten + "c", 39);
        String nine = ten.substring(0, 35);
        fault(nine + ";", 36);
        fault(nine + "77;9", 38 + 1);
        fault(nine + "77;8", 38);
        // Forty signs of which more must come, for which there is no room.
        fault("0c000;1c000;2c000;3c000;4c000;5c000;6c0;", 40);
        fault("0c000;1c000;2c000;3c000;4c000;5c000;6c00", BusThrees.NONE);
    }

    private static void promise12Rule() {
        BusThrees x = new BusThrees();
        c.due("rule() of no signs", x.rule(), BusThrees.NO);
        c.rule(x, "0c1;1g2;2c3");
        c.due("told(3)", x.told(3), 3);
        c.due("told(2)", x.told(2), 0);
        c.say(x, "0c1;0");
        c.due("rule() with a FAULT", x.rule(), BusThrees.NO);
        c.due("the RULE stays", x.told(3), 3);
        c.due("signs stay", x.told(2), 5);
        x.bus(7, 5);
        c.visit(x, 0, 0, 7, 17);
        c.due("fault()", x.fault(), 4);
        c.visit(x, 0, 0, 7, 17);
        // A new RULE leaves nothing of the old one.
        c.rule(x, "5c90");
        c.due("told(3)", x.told(3), 1);
        c.visit(x, 0, 0, 7, 7);
        c.visit(x, 0, 5, 607, 907);
        c.due("best leaves the RULE", x.best(0), 0);
        c.visit(x, 0, 5, 607, 907);
    }

    private static void promise12ByTheClock() {
        BusThrees x = new BusThrees();
        x.bus(100, 80);
        x.bus(105, 80);
        c.rule(x, "0c5;2c30");
        // The clock of each runs from when it came to STOP 0, here behind the one ahead.
        c.visit(x, 0, 0, 100, 150);
        c.visit(x, 1, 0, 150, 200);
        c.visit(x, 0, 1, 270, 270);
        c.visit(x, 0, 2, 390, 400);
        c.visit(x, 1, 2, 440, 450);
        // Waiting is behind all else: standing, LATENESS, then the clock.
        x.stop(2, 1, 100);
        c.visit(x, 0, 2, 390, 404, 3, 0, 3, 0);
        x.stop(2, 1, 390);
        c.visit(x, 0, 2, 390, 400, 1, 0, 1, 0);
        x.late(0, 2, 1);
        c.visit(x, 0, 2, 390, 401, 1, 0, 1, 0);
        c.rule(x, "0c999");
        c.visit(x, 0, 0, 100, 10090);
    }

    private static void promise12ByTheGap() {
        BusThrees x = new BusThrees();
        x.bus(0, 80);
        x.bus(60, 80);
        x.bus(500, 80);
        c.rule(x, "1g200");
        c.visit(x, 0, 1, 120, 120);
        c.visit(x, 1, 1, 180, 320);
        c.visit(x, 2, 1, 620, 620);
        c.rule(x, "1g0");
        c.visit(x, 1, 1, 180, 180);
        c.rule(x, "1g999");
        c.visit(x, 1, 1, 180, 1119);
        c.visit(x, 2, 1, 1119, 2118);
        c.visit(x, 2, 2, 2238, 2238);
        x.stop(1, 1, 100);
        c.visit(x, 0, 1, 120, 130, 1, 0, 1, 0);
        c.visit(x, 1, 1, 180, 1129, 0, 0, 0, 0);
    }

    private static void promise12GapWhoCameAhead() {
        // BUS 0 comes first to STOP 1 and leaves last of all: it is the latest leaving for both.
        BusThrees x = new BusThrees();
        x.bus(0, 80);
        x.bus(10, 80);
        x.bus(20, 80);
        x.set(3, 1);
        x.late(0, 1, 300);
        c.rule(x, "1g50");
        c.visit(x, 0, 1, 120, 420);
        c.visit(x, 1, 1, 130, 470);
        c.visit(x, 2, 1, 140, 520);
        // One that is TURNED there does not count; without any other it does not wait.
        x.turn(0, 1);
        c.visit(x, 0, 1, 120, 420);
        c.visit(x, 1, 1, 130, 130);
        c.visit(x, 2, 1, 140, 180);
        // Who passes comes ahead, whatever its number.
        BusThrees y = new BusThrees();
        y.bus(0, 80);
        y.bus(10, 80);
        y.set(3, 1);
        y.late(0, 0, 100);
        c.rule(y, "1g400");
        c.visit(y, 1, 1, 130, 130);
        c.visit(y, 0, 1, 220, 530);
        // Of like seconds the lesser number is ahead.
        y.late(1, 0, 90);
        c.visit(y, 0, 1, 220, 220);
        c.visit(y, 1, 1, 220, 620);
    }

    private static void promise12NoWaitingAtTheEnd() {
        BusThrees x = new BusThrees();
        x.bus(0, 80);
        x.bus(0, 80);
        c.rule(x, "9c999;4c999;3g900");
        x.turn(0, 4);
        c.visit(x, 0, 3, 360, 360);
        c.visit(x, 0, 4, 480, 480);
        c.visit(x, 1, 3, 360, 1260);
        c.visit(x, 1, 4, 1380, 9990);
        c.visit(x, 1, 9, 9990 + 600, 9990 + 600);
        c.rule(x, "9g999");
        x.turn(0, 9);
        c.visit(x, 1, 9, 1080, 1080);
    }

    private static void promise13Free() {
        BusThrees x = new BusThrees();
        c.due("free() of none", x.free(), 0);
        x.bus(0, 80);
        c.rule(x, "0c5;1c90");
        c.say(x, "0c");
        c.visit(x, 0, 1, 170, 900);
        c.due("free()", x.free(), 2);
        c.due("told(3)", x.told(3), 0);
        c.due("signs stay", x.told(2), 2);
        c.visit(x, 0, 1, 120, 120);
        c.due("free() again", x.free(), 0);
    }
}
