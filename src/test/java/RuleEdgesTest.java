/** Promises 9 to 13 and part 2 of the Terms at their edges: a method for each sentence that names one. */
public final class RuleEdgesTest {
    private static final Check c = new Check("RuleEdgesTest");
    private static final String DIGITS = "0123456789";
    private static final String TEN = "0c0;1c0;2c0;3c0;4c0;5c0;6c0;7c0;8c0;9c0";

    private RuleEdgesTest() {
    }

    public static void main(String[] args) {
        noSignsAtFirst();
        codesThirtyThreeToOneHundredTwentySix();
        fortySignsAtMost();
        wipeOfNoneAndOfForty();
        faultByEachSign();
        faultOfAStopThatWas();
        faultIfAllTenWere();
        faultIfMoreMustCome();
        faultIsTheFirst();
        oneToThreeDigits();
        ruleTakesTheSigns();
        ruleRefusedWithAFault();
        ruleOfOneToTenLines();
        aNewRuleIsTheWholeRule();
        clockNoSooner();
        clockFromWhenItCameToTheFirstStop();
        gapNoSooner();
        gapWithoutAnyAheadDoesNotWait();
        gapBehindTheLatestLeaving();
        gapNotBehindThoseThatEndThere();
        gapByWhoCameAhead();
        waitingIsBehindAllElse();
        turnedOnesDoNotWait();
        noWaitingAtTheLastStop();
        freeOfNoneAndOfTen();
        c.end();
    }

    private static void leaves(BusThrees x, int bus, int stop, int want) {
        c.due("at(" + bus + ", " + stop + ", 1)", x.at(bus, stop, 1), want);
    }

    private static void fault(String text, int want) {
        BusThrees x = new BusThrees();
        c.say(x, text);
        c.due("fault() of " + text, x.fault(), want);
        c.due("told(2) behind it", x.told(2), text.length());
    }

    // ---- promises 9 and 10

    /** "none at first". */
    private static void noSignsAtFirst() {
        BusThrees x = new BusThrees();
        c.due("told(2)", x.told(2), 0);
        c.due("fault()", x.fault(), 0);
        c.due("wipe()", x.wipe(), 0);
        c.due("the first", x.say('0'), 1);
    }

    /** "codes 33 to 126". */
    private static void codesThirtyThreeToOneHundredTwentySix() {
        BusThrees x = new BusThrees();
        for (int code = 0; code <= 300; code++) {
            boolean isSign = code >= 33 && code <= 126;
            c.due("say(" + code + ")", x.say(code), isSign ? 1 : BusThrees.OUTSIDE);
            if (isSign) {
                c.due("wipe()", x.wipe(), 1);
            }
        }
        c.due("told(2)", x.told(2), 0);
        // What wraps round to a sign is none: 256 and 65536 more, or less, than that of 0.
        c.due("say(48 + 256)", x.say(48 + 256), BusThrees.OUTSIDE);
        c.due("say(48 + 65536)", x.say(48 + 65536), BusThrees.OUTSIDE);
        c.due("say(48 - 65536)", x.say(48 - 65536), BusThrees.OUTSIDE);
        c.due("told(2)", x.told(2), 0);
    }

    /** "a text of up to 40 signs"; "A sign more: how many. OUTSIDE; FULL." */
    private static void fortySignsAtMost() {
        BusThrees x = new BusThrees();
        String text = TEN + "5";
        for (int n = 1; n <= 40; n++) {
            c.due("sign " + n, x.say(text.charAt(n - 1)), n);
        }
        c.due("a 41st", x.say('5'), BusThrees.FULL);
        c.due("a 41st", x.say(';'), BusThrees.FULL);
        c.due("a 41st of code 32", x.say(32), BusThrees.OUTSIDE);
        c.due("a 41st of code 127", x.say(127), BusThrees.OUTSIDE);
        c.due("told(2)", x.told(2), 40);
        c.due("fault()", x.fault(), BusThrees.NONE);
        c.due("rule()", x.rule(), 10);
        c.due("there is room again", x.say('5'), 1);
    }

    /** "Signs go: how many there were." */
    private static void wipeOfNoneAndOfForty() {
        BusThrees x = new BusThrees();
        c.due("wipe()", x.wipe(), 0);
        for (int n = 0; n < 40; n++) {
            x.say('~');
        }
        c.due("fault()", x.fault(), 0);
        c.due("wipe()", x.wipe(), 40);
        c.due("told(2)", x.told(2), 0);
        c.due("wipe()", x.wipe(), 0);
        c.rule(x, "3c0");
        c.due("nothing of the old ones is left", x.told(3), 1);
        for (int n = 1; n <= 40; n++) {
            c.due("sign " + n, x.say('~'), n);
        }
        c.due("a 41st", x.say('~'), BusThrees.FULL);
    }

    // ---- promise 11

    /** "the place (from 0 on) of the first sign that can not stand there": each sign in each place. */
    private static void faultByEachSign() {
        String[][] beginningsAndWhatMayFollow = {
            {"", DIGITS}, {"0", "cg"}, {"9", "cg"}, {"0c", DIGITS}, {"9g", DIGITS}, {"4c7", DIGITS + ";"},
            {"4g70", DIGITS + ";"}, {"4c705", ";"}, {"4c705;", "012356789"}, {"0c7;9g12;", "12345678"},
            {"4c705;5", "cg"}, {"4c7;5g", DIGITS}, {"4c7;5g1", DIGITS + ";"}, {"4c7;5g12", DIGITS + ";"},
            {"4c7;5g123", ";"}, {TEN, DIGITS}, {TEN.substring(0, 35), DIGITS + ";"}, {TEN.substring(0, 36), "9"}};
        for (String[] b : beginningsAndWhatMayFollow) {
            for (char sign = 33; sign <= 126; sign++) {
                String text = b[0] + sign;
                if (b[1].indexOf(sign) < 0) {
                    fault(text, b[0].length());
                } else {
                    boolean isWhole = text.matches(".*[cg][0-9]+");
                    fault(text, isWhole ? BusThrees.NONE : text.length());
                }
            }
        }
    }

    /** "no STOP twice"; "(a STOP that was, neither ...". */
    private static void faultOfAStopThatWas() {
        for (int stop = 0; stop < 10; stop++) {
            fault(stop + "c1;" + stop, 4);
            fault(stop + "g12;" + stop + "c1", 5);
            int other = (stop + 1) % 10;
            fault(stop + "c1;" + other + "c1;" + stop, 8);
            fault(stop + "c1;" + other + "c1;" + other, 8);
            fault(stop + "c1;" + other + "c1", BusThrees.NONE);
        }
    }

    /** "nor a ;, if all ten were". */
    private static void faultIfAllTenWere() {
        fault(TEN, BusThrees.NONE);
        fault(TEN + ";", 39);
        fault(TEN + "0", BusThrees.NONE);
        // Nine were: a ; may stand, and more must come.
        fault(TEN.substring(0, 35) + ";", 36);
        fault(TEN.substring(0, 35) + "00;", 38);
        fault(TEN.substring(0, 35) + "00;9", 39);
        fault(TEN.substring(0, 35) + "00;9c", 40);
        // In any order.
        fault("9g0;8g0;7g0;6g0;5g0;4g0;3g0;2g0;1g0;0g0", BusThrees.NONE);
        fault("9g0;8g0;7g0;6g0;5g0;4g0;3g0;2g0;1g0;0g0;", 39);
    }

    /** "the number of signs, if more must come". */
    private static void faultIfMoreMustCome() {
        String whole = "3c123;4g5";
        int[] due = {0, 1, 2, -6, -6, -6, 6, 7, 8, -6};
        for (int n = 0; n <= whole.length(); n++) {
            fault(whole.substring(0, n), due[n]);
        }
        fault("0c000;1c000;2c000;3c000;4c000;5c000;6c0;", 40);
        fault("0c000;1c000;2c000;3c000;4c000;5c000;6c;0", 38);
        fault("0c000;1c000;2c000;3c000;4c000;5c00;6c00;", 40);
        fault("0c000;1c000;2c000;3c000;4c000;5c00;6c0;7", 40);
        fault("0c000;1c000;2c000;3c000;4c000;5c0;6c0;7g", 40);
    }

    /** "the first sign": there may be others behind it. */
    private static void faultIsTheFirst() {
        fault("x3c1", 0);
        fault("3x;;;;", 1);
        fault("3cx;3c1", 2);
        fault("3c1x;3c1", 3);
        fault("3c1;3c1;4", 4);
        fault("~~~~~~~~~~~~~~~~~~~~~~~~~~~~~~~~~~~~~~~~", 0);
        fault("0c000;1c000;2c000;3c000;4c000;5c000;6c0~", 39);
    }

    // ---- promise 12

    /** "1 to 3 digits". */
    private static void oneToThreeDigits() {
        String[] texts = {"0c0", "0c00", "0c000", "0c1", "0c01", "0c001", "0c9", "0c99", "0c999", "0c100"};
        int[] tens = {0, 0, 0, 1, 1, 1, 9, 99, 999, 100};
        for (int i = 0; i < texts.length; i++) {
            BusThrees x = States.buses(0);
            c.rule(x, texts[i]);
            leaves(x, 0, 0, 10 * tens[i]);
        }
        fault("0c", 2);
        fault("0c1000", 5);
        fault("0g0000", 5);
    }

    /** "The RULE is the signs' (they are empty then): LINES." */
    private static void ruleTakesTheSigns() {
        BusThrees x = States.buses(0);
        c.say(x, "0c5");
        leaves(x, 0, 0, 0);
        c.due("told(3)", x.told(3), 0);
        c.due("rule()", x.rule(), 1);
        leaves(x, 0, 0, 50);
        c.due("told(2)", x.told(2), 0);
        c.due("fault()", x.fault(), 0);
        c.due("wipe()", x.wipe(), 0);
        c.due("rule() of no signs", x.rule(), BusThrees.NO);
        leaves(x, 0, 0, 50);
        // The RULE is its own: signs said behind it change nothing.
        c.say(x, "0c9");
        c.due("fault()", x.fault(), BusThrees.NONE);
        leaves(x, 0, 0, 50);
        x.wipe();
        leaves(x, 0, 0, 50);
    }

    /** "NO: there is a FAULT." */
    private static void ruleRefusedWithAFault() {
        String[] faulty = {"", "0", "0c", "0c9;", "0c9;0", "0x", "0c9999", "x", TEN + ";"};
        for (String text : faulty) {
            BusThrees x = States.buses(0);
            c.rule(x, "0c5;1c90");
            c.say(x, text);
            c.due("rule() of " + text, x.rule(), BusThrees.NO);
            c.due("told(2)", x.told(2), text.length());
            c.due("told(3)", x.told(3), 2);
            leaves(x, 0, 0, 50);
            leaves(x, 0, 1, 900);
            c.due("wipe()", x.wipe(), text.length());
        }
    }

    /** "LINES with a ; between two". */
    private static void ruleOfOneToTenLines() {
        for (int lines = 1; lines <= 10; lines++) {
            BusThrees x = States.buses(0);
            c.say(x, TEN.substring(0, 4 * lines - 1));
            c.due("rule() of " + lines, x.rule(), lines);
            c.due("told(3)", x.told(3), lines);
            c.due("free()", x.free(), lines);
        }
        // Each LINE is of its own STOP.
        BusThrees each = States.buses(0);
        c.rule(each, "8c801;0c1;7c700;3c301");
        int[] due = {10, 130, 250, 3010, 3130, 3250, 3370, 7000, 8010, 8130};
        for (int stop = 0; stop < 10; stop++) {
            leaves(each, 0, stop, due[stop]);
        }
    }

    /** "A RULE by which all BUSES wait": of the one before nothing is left. */
    private static void aNewRuleIsTheWholeRule() {
        BusThrees x = States.buses(0, 0);
        c.rule(x, "0c5;1c90;2g400");
        leaves(x, 0, 1, 900);
        leaves(x, 1, 1, 950);
        leaves(x, 1, 2, 1420);
        c.rule(x, "2g300");
        c.due("told(3)", x.told(3), 1);
        leaves(x, 0, 0, 0);
        leaves(x, 0, 1, 120);
        leaves(x, 1, 2, 540);
    }

    /** "c: it leaves no sooner than so many times 10 seconds behind when it came to STOP 0." */
    private static void clockNoSooner() {
        // It comes to STOP 1 at 125, which is 120 behind 5.
        int[] tens = {0, 11, 12, 13, 999};
        int[] due = {125, 125, 125, 135, 9995};
        for (int i = 0; i < tens.length; i++) {
            BusThrees x = States.buses(5);
            c.rule(x, "1c" + tens[i]);
            leaves(x, 0, 0, 5);
            leaves(x, 0, 1, due[i]);
            leaves(x, 0, 2, due[i] + 120);
        }
        BusThrees one = States.buses(4);
        one.stop(0, 0, 119);
        c.rule(one, "1c12");
        c.visit(one, 0, 1, 123, 124);
    }

    /** "behind when it came to STOP 0": each by its own coming. */
    private static void clockFromWhenItCameToTheFirstStop() {
        BusThrees x = States.buses(0, 7);
        c.rule(x, "3c50");
        leaves(x, 0, 3, 500);
        leaves(x, 1, 3, 507);
        // BUS 1 comes behind BUS 0, that stands till 20: its clock runs from 20 on.
        x.late(0, 0, 20);
        c.visit(x, 1, 0, 20, 20);
        leaves(x, 0, 3, 500);
        leaves(x, 1, 3, 520);
        x.set(3, 1);
        leaves(x, 1, 3, 507);
    }

    /** "g: it leaves no sooner than so many seconds behind the latest leaving ..." */
    private static void gapNoSooner() {
        int[] gaps = {0, 59, 60, 61, 999};
        int[] due = {180, 180, 180, 181, 1119};
        for (int i = 0; i < gaps.length; i++) {
            BusThrees x = States.buses(0, 60);
            c.rule(x, "1g" + gaps[i]);
            leaves(x, 0, 1, 120);
            leaves(x, 1, 0, 60);
            leaves(x, 1, 1, due[i]);
        }
    }

    /** "(without any it does not wait)". */
    private static void gapWithoutAnyAheadDoesNotWait() {
        for (int stop = 0; stop < 9; stop++) {
            BusThrees x = States.buses(0, 0);
            c.rule(x, stop + "g999");
            leaves(x, 0, stop, 120 * stop);
            leaves(x, 1, stop, 120 * stop + 999);
        }
        BusThrees alone = States.buses(7200);
        c.rule(alone, "0g999;8g999");
        leaves(alone, 0, 0, 7200);
        leaves(alone, 0, 8, 7200 + 960);
    }

    /** "the latest leaving of those": not of the nearest ahead. */
    private static void gapBehindTheLatestLeaving() {
        BusThrees x = States.buses(0, 1, 2);
        x.set(3, 1);
        x.late(0, 4, 500);
        c.rule(x, "4g0");
        leaves(x, 0, 4, 980);
        leaves(x, 1, 4, 980);
        leaves(x, 2, 4, 980);
        c.rule(x, "4g1");
        leaves(x, 1, 4, 981);
        leaves(x, 2, 4, 982);
        x.free();
        leaves(x, 1, 4, 481);
        leaves(x, 2, 4, 482);
    }

    /** "and go on": one that is TURNED there is not counted, one that is TURNED at the next STOP is. */
    private static void gapNotBehindThoseThatEndThere() {
        BusThrees x = States.buses(0, 10);
        c.rule(x, "3g300");
        x.turn(0, 3);
        leaves(x, 0, 3, 360);
        leaves(x, 1, 3, 370);
        x.turn(0, 4);
        leaves(x, 0, 3, 360);
        leaves(x, 1, 3, 660);
        x.turn(0, 2);
        leaves(x, 1, 3, 370);
    }

    /** "of those that came there ahead of it": of like ones that of the lesser number. */
    private static void gapByWhoCameAhead() {
        for (int more = 0; more < 2; more++) {
            BusThrees x = States.buses(0, 50);
            x.set(3, 1);
            x.late(0, 0, 50 + more);
            c.rule(x, "1g100");
            c.visit(x, 0, 1, 170 + more, more == 0 ? 170 : 270);
            c.visit(x, 1, 1, 170, more == 0 ? 270 : 170);
        }
    }

    /** "Waiting is behind all else": it waits only for what its standing has left. */
    private static void waitingIsBehindAllElse() {
        BusThrees x = States.buses(10);
        x.stop(0, 1, 10);
        x.late(0, 0, 29);
        // One gets on: it stands till 10 + 8 + 2 + 29 = 49.
        leaves(x, 0, 0, 49);
        c.rule(x, "0c3");
        leaves(x, 0, 0, 49);
        c.rule(x, "0c4");
        c.visit(x, 0, 0, 10, 50, 1, 0, 1, 0);
        c.rule(x, "0c900");
        // Who comes as it waits does not get on.
        c.visit(x, 0, 0, 10, 9010, 1, 0, 1, 0);
    }

    /** "TURNED ones ...: no waiting". */
    private static void turnedOnesDoNotWait() {
        for (int stop = 1; stop < 9; stop++) {
            BusThrees x = States.buses(0, 0);
            c.rule(x, stop + "c999");
            x.turn(0, stop);
            leaves(x, 0, stop, 120 * stop);
            leaves(x, 1, stop, 9990);
            c.rule(x, stop + "g999");
            x.turn(0, 9);
            x.turn(1, stop);
            leaves(x, 0, stop, 120 * stop);
            leaves(x, 1, stop, 120 * stop);
        }
    }

    /** "STOP 9: no waiting". */
    private static void noWaitingAtTheLastStop() {
        BusThrees x = States.buses(0, 0);
        c.rule(x, "9c999");
        leaves(x, 0, 9, 1080);
        leaves(x, 1, 9, 1080);
        c.rule(x, "9g999");
        leaves(x, 1, 9, 1080);
        c.due("but it is a LINE", x.told(3), 1);
        c.rule(x, "8g999");
        leaves(x, 1, 8, 1959);
        leaves(x, 1, 9, 2079);
    }

    // ---- promise 13

    /** "There is no RULE any more: how many LINES it had." */
    private static void freeOfNoneAndOfTen() {
        BusThrees x = States.buses(0);
        c.due("free()", x.free(), 0);
        c.rule(x, "0c1;1c20;2c90;3c90;4c90;5c90;6c90;7c90");
        c.due("told(3)", x.told(3), 8);
        leaves(x, 0, 0, 10);
        leaves(x, 0, 2, 900);
        c.due("free()", x.free(), 8);
        c.due("told(3)", x.told(3), 0);
        for (int stop = 0; stop < 10; stop++) {
            leaves(x, 0, stop, 120 * stop);
        }
        c.due("free()", x.free(), 0);
        c.rule(x, TEN);
        c.say(x, "0c1");
        c.due("free()", x.free(), 10);
        c.due("signs stay", x.told(2), 3);
        c.due("rule()", x.rule(), 1);
        leaves(x, 0, 0, 10);
    }
}
