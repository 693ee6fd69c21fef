/** Promises 1 to 8 and part 1 of the Terms at their edges: a method for each sentence that names one. */
public final class LineEdgesTest {
    private static final Check c = new Check("LineEdgesTest");

    private LineEdgesTest() {
    }

    public static void main(String[] args) {
        newHasNoBuses();
        newHasNobodyComing();
        newHasNoRule();
        newHasNoLatenessesAndNoSigns();
        rideTenToNineHundred();
        gapTenToNineHundred();
        gapNoneIsNobody();
        oneComesEachGapFromSecondGapOn();
        tripOneToNine();
        eachGoesSoManyStopsOrToTheLast();
        nobodyComesAtTheLastStop();
        busesEightAtMost();
        secondNoneToSevenThousandTwoHundred();
        secondNotBeforeTheOneAhead();
        seatsOneToEighty();
        doorNoneToSixty();
        onNoneToTen();
        offNoneToTen();
        passOneOrNone();
        twoNoneToSixHundred();
        latenessesTenAtMost();
        latenessOneToNineHundred();
        latenessesAllTogether();
        latenessAlsoIfNobodyGetsOnOrOff();
        latenessAtEachStopButTheLast();
        latenessWhereItDoesNotCome();
        mendTheLast();
        turnOneToEightAndNine();
        atEachStop();
        getOffThenOn();
        whoCameByThatSecond();
        asManyAsFreeSeatsLongestWaitingFirst();
        standsOnlyIfAnyGetsOnOrOff();
        likeOnesComeByNumber();
        noneMayPassAtFirst();
        turnedAllGetOffNobodyGetsOn();
        turnedLeavesWhoIsThere();
        atTheLastStopAllGetOff();
        c.end();
    }

    // ---- promise 1

    /** "No BUSES". */
    private static void newHasNoBuses() {
        BusThrees x = new BusThrees();
        c.due("told(0)", x.told(0), 0);
        for (int stop = 0; stop < 10; stop++) {
            c.due("at(0, " + stop + ", 0)", x.at(0, stop, 0), BusThrees.UNKNOWN);
        }
        for (int stop = 0; stop < 9; stop++) {
            c.due("follow(" + stop + ", 0)", x.follow(stop, 0), 0);
            c.due("follow(" + stop + ", 1)", x.follow(stop, 1), BusThrees.NONE);
            c.due("spread(" + stop + ")", x.spread(stop), BusThrees.NONE);
            c.due("board(" + (stop + 1) + ", 0, 1)", x.board(stop + 1, 0, 1), BusThrees.NONE);
        }
        c.due("turn(0, 9)", x.turn(0, 9), BusThrees.UNKNOWN);
        c.due("late(0, 0, 1)", x.late(0, 0, 1), BusThrees.UNKNOWN);
        c.due("best(0)", x.best(0), BusThrees.STATE);
        c.due("the first one's number", x.bus(0, 1), 0);
        c.due("told(0) then", x.told(0), 1);
    }

    /** "nobody comes". */
    private static void newHasNobodyComing() {
        BusThrees x = new BusThrees();
        x.bus(7200, 80);
        for (int stop = 0; stop < 10; stop++) {
            c.visit(x, 0, stop, 7200 + 120 * stop, 7200 + 120 * stop, 0, 0, 0, 0);
        }
        for (int stop = 0; stop < 9; stop++) {
            c.due("waited(" + stop + ", 0)", x.waited(stop, 0), 0);
        }
    }

    /** "no RULE". */
    private static void newHasNoRule() {
        BusThrees x = new BusThrees();
        c.due("told(3)", x.told(3), 0);
        x.bus(0, 1);
        x.bus(0, 1);
        for (int stop = 0; stop < 10; stop++) {
            c.visit(x, 0, stop, 120 * stop, 120 * stop);
            c.visit(x, 1, stop, 120 * stop, 120 * stop);
        }
        c.due("free()", x.free(), 0);
    }

    /** Nothing else is in a new one either. */
    private static void newHasNoLatenessesAndNoSigns() {
        BusThrees x = new BusThrees();
        c.due("told(1)", x.told(1), 0);
        c.due("mend()", x.mend(), BusThrees.NO);
        c.due("told(2)", x.told(2), 0);
        c.due("fault()", x.fault(), 0);
        c.due("rule()", x.rule(), BusThrees.NO);
        c.due("wipe()", x.wipe(), 0);
        int[] first = {8, 2, 1, 0, 30};
        for (int which = 0; which < 5; which++) {
            c.due("told(" + (4 + which) + ")", x.told(4 + which), first[which]);
        }
    }

    // ---- promise 2

    /** "RIDE from one to the next (10 to 900; 120 at first)". */
    private static void rideTenToNineHundred() {
        for (int stop = 0; stop < 9; stop++) {
            BusThrees x = new BusThrees();
            x.bus(0, 1);
            c.visit(x, 0, stop + 1, 120 * stop + 120);
            c.due("RIDE 9", x.stop(stop, 0, 9), BusThrees.OUTSIDE);
            c.visit(x, 0, stop + 1, 120 * stop + 120);
            c.due("RIDE 10", x.stop(stop, 0, 10), 120);
            c.visit(x, 0, stop, 120 * stop);
            c.visit(x, 0, stop + 1, 120 * stop + 10);
            c.due("RIDE 901", x.stop(stop, 0, 901), BusThrees.OUTSIDE);
            c.visit(x, 0, stop + 1, 120 * stop + 10);
            c.due("RIDE 900", x.stop(stop, 0, 900), 10);
            c.visit(x, 0, stop + 1, 120 * stop + 900);
            c.visit(x, 0, 9, 120 * 8 + 900);
            c.due("RIDE 0", x.stop(stop, 0, 0), BusThrees.OUTSIDE);
            c.due("RIDE then", x.stop(stop, 0, 120), 900);
        }
    }

    /** "GAP (10 to 900; ...". */
    private static void gapTenToNineHundred() {
        for (int stop = 0; stop < 9; stop++) {
            BusThrees x = new BusThrees();
            x.bus(1800, 80);
            int comes = 1800 + 120 * stop;
            c.due("GAP 9", x.stop(stop, 1, 9), BusThrees.OUTSIDE);
            c.due("GAP 1", x.stop(stop, 1, 1), BusThrees.OUTSIDE);
            c.due("GAP -1", x.stop(stop, 1, -1), BusThrees.OUTSIDE);
            c.visit(x, 0, stop, comes, comes, 0, 0, 0, 0);
            c.due("GAP 10", x.stop(stop, 1, 10), 0);
            c.visit(x, 0, stop, comes, comes + 168, 80, 0, 80, comes / 10 - 80);
            c.due("GAP 901", x.stop(stop, 1, 901), BusThrees.OUTSIDE);
            c.visit(x, 0, stop, comes, comes + 168, 80, 0, 80, comes / 10 - 80);
            c.due("GAP 900", x.stop(stop, 1, 900), 10);
            int on = stop == 8 ? 3 : 2;
            // 1800 and 960 are 2760: the third came at 2700, to STOP 8 alone.
            c.visit(x, 0, stop, comes, comes + 8 + 2 * on, on, 0, on, 0);
            c.due("GAP then", x.stop(stop, 1, 10), 900);
        }
    }

    /** "0: nobody, at first". */
    private static void gapNoneIsNobody() {
        for (int stop = 0; stop < 9; stop++) {
            BusThrees x = new BusThrees();
            x.bus(0, 80);
            x.bus(1000, 80);
            c.visit(x, 1, stop, 1000 + 120 * stop, 1000 + 120 * stop, 0, 0, 0, 0);
            c.due("GAP 50", x.stop(stop, 1, 50), 0);
            c.holds("then some come", x.at(1, stop, 2) > 0);
            c.due("GAP 0", x.stop(stop, 1, 0), 50);
            c.visit(x, 1, stop, 1000 + 120 * stop, 1000 + 120 * stop, 0, 0, 0, 0);
            c.due("waited", x.waited(stop, 0), 0);
        }
    }

    /** "At a STOP one comes each GAP from second GAP on, again and again". */
    private static void oneComesEachGapFromSecondGapOn() {
        int[][] secondsAndCome = {{0, 0}, {9, 0}, {10, 1}, {19, 1}, {20, 2}, {29, 2}, {30, 3}, {799, 79}, {800, 80},
            {810, 81}, {7199, 719}, {7200, 720}};
        for (int[] s : secondsAndCome) {
            BusThrees x = new BusThrees();
            x.stop(0, 1, 10);
            x.bus(s[0], 80);
            int on = Math.min(s[1], 80);
            c.visit(x, 0, 0, s[0], on == 0 ? s[0] : s[0] + 8 + 2 * on, on, 0, on, s[1] - on);
        }
        for (int stop = 0; stop < 9; stop++) {
            int[][] rare = {{1799, 1}, {1800, 2}, {1801, 2}, {2699, 2}, {2700, 3}};
            for (int[] s : rare) {
                BusThrees x = new BusThrees();
                x.stop(stop, 1, 900);
                x.bus(s[0] - 120 * stop, 80);
                c.visit(x, 0, stop, s[0], s[0] + 8 + 2 * s[1], s[1], 0, s[1], 0);
            }
        }
        BusThrees first = new BusThrees();
        first.stop(0, 1, 900);
        first.bus(899, 1);
        first.bus(900, 1);
        c.visit(first, 0, 0, 899, 899, 0, 0, 0, 0);
        c.visit(first, 1, 0, 900, 910, 1, 0, 1, 0);
    }

    /** "TRIP 1 to 9; 3 at first". */
    private static void tripOneToNine() {
        for (int stop = 0; stop < 9; stop++) {
            BusThrees x = new BusThrees();
            c.due("TRIP 0", x.stop(stop, 2, 0), BusThrees.OUTSIDE);
            c.due("TRIP 10", x.stop(stop, 2, 10), BusThrees.OUTSIDE);
            c.due("TRIP -1", x.stop(stop, 2, -1), BusThrees.OUTSIDE);
            c.due("TRIP 1", x.stop(stop, 2, 1), 3);
            c.due("TRIP 10", x.stop(stop, 2, 10), BusThrees.OUTSIDE);
            c.due("TRIP 9", x.stop(stop, 2, 9), 1);
            c.due("TRIP 0", x.stop(stop, 2, 0), BusThrees.OUTSIDE);
            c.due("TRIP 3", x.stop(stop, 2, 3), 9);
        }
        BusThrees atFirst = new BusThrees();
        atFirst.stop(2, 1, 900);
        atFirst.bus(900, 1);
        c.visit(atFirst, 0, 4, 1390, 1390, 0, 0, 1);
        c.visit(atFirst, 0, 5, 1510, 1519, 0, 1, 0);
    }

    /** "each goes so many STOPS on, or to the last one". */
    private static void eachGoesSoManyStopsOrToTheLast() {
        for (int from = 0; from < 9; from++) {
            for (int trip = 1; trip < 10; trip++) {
                BusThrees x = new BusThrees();
                x.stop(from, 1, 900);
                x.stop(from, 2, trip);
                x.bus(900, 1);
                int goal = Math.min(from + trip, 9);
                for (int stop = 0; stop < 10; stop++) {
                    String of = " at " + stop + " of " + from + " with TRIP " + trip;
                    c.due("off" + of, x.at(0, stop, 3), stop == goal ? 1 : 0);
                    c.due("in it" + of, x.at(0, stop, 4), stop >= from && stop < goal ? 1 : 0);
                }
            }
        }
    }

    /** "Nobody comes at STOP 9." */
    private static void nobodyComesAtTheLastStop() {
        BusThrees x = new BusThrees();
        for (int stop = 0; stop < 9; stop++) {
            x.stop(stop, 1, 10);
        }
        c.due("GAP of STOP 9", x.stop(9, 1, 10), BusThrees.UNKNOWN);
        x.bus(7200, 80);
        c.due("who gets on at STOP 9", x.at(0, 9, 2), 0);
        c.due("who is left at STOP 9", x.at(0, 9, 5), 0);
        c.due("waited(9, 0)", x.waited(9, 0), BusThrees.UNKNOWN);
    }

    // ---- promise 3

    /** "BUSES, 8 at most, numbered from 0 on". */
    private static void busesEightAtMost() {
        BusThrees x = new BusThrees();
        for (int n = 0; n < 8; n++) {
            c.due("at of the next one", x.at(n, 0, 0), BusThrees.UNKNOWN);
            c.due("bus " + n, x.bus(100 * n, 10 + n), n);
            c.due("told(0)", x.told(0), n + 1);
        }
        c.due("a ninth", x.bus(700, 10), BusThrees.FULL);
        c.due("a ninth", x.bus(7200, 10), BusThrees.FULL);
        c.due("told(0)", x.told(0), 8);
        c.due("at(8, 0, 0)", x.at(8, 0, 0), BusThrees.UNKNOWN);
        x.stop(0, 1, 10);
        for (int n = 0; n < 8; n++) {
            c.visit(x, n, 0, 100 * n);
        }
        // Ten come in each 100 seconds, and each BUS takes all ten (it has 10 SEATS or more).
        c.visit(x, 7, 0, 700, 728, 10, 0, 10, 0);
    }

    /** "at a second (0 to 7200 ...". */
    private static void secondNoneToSevenThousandTwoHundred() {
        BusThrees x = new BusThrees();
        c.due("bus(-1, 5)", x.bus(-1, 5), BusThrees.OUTSIDE);
        c.due("bus(0, 5)", x.bus(0, 5), 0);
        c.due("bus(7201, 5)", x.bus(7201, 5), BusThrees.OUTSIDE);
        c.due("bus(7200, 5)", x.bus(7200, 5), 1);
        c.visit(x, 0, 0, 0, 0);
        c.visit(x, 1, 0, 7200, 7200);
        c.due("told(0)", x.told(0), 2);
    }

    /** "not before that of the one ahead". */
    private static void secondNotBeforeTheOneAhead() {
        BusThrees x = new BusThrees();
        c.due("bus(500, 1)", x.bus(500, 1), 0);
        c.due("bus(499, 1)", x.bus(499, 1), BusThrees.OUTSIDE);
        c.due("bus(0, 1)", x.bus(0, 1), BusThrees.OUTSIDE);
        c.due("bus(500, 1)", x.bus(500, 1), 1);
        c.due("bus(501, 1)", x.bus(501, 1), 2);
        c.due("bus(500, 1)", x.bus(500, 1), BusThrees.OUTSIDE);
        c.due("bus(7201, 1)", x.bus(7201, 1), BusThrees.OUTSIDE);
        c.due("bus(7200, 0)", x.bus(7200, 0), BusThrees.OUTSIDE);
        c.due("bus(501, 1): refused ones are not ahead", x.bus(501, 1), 3);
        // When it was to come counts, not when it came behind one in its way.
        BusThrees y = new BusThrees();
        y.bus(0, 1);
        y.late(0, 0, 900);
        y.bus(10, 1);
        c.visit(y, 1, 0, 900);
        c.due("bus(9, 1)", y.bus(9, 1), BusThrees.OUTSIDE);
        c.due("bus(10, 1)", y.bus(10, 1), 2);
    }

    /** "SEATS (1 to 80)". */
    private static void seatsOneToEighty() {
        BusThrees x = new BusThrees();
        x.stop(0, 1, 10);
        c.due("bus(1000, 0)", x.bus(1000, 0), BusThrees.OUTSIDE);
        c.due("bus(1000, 81)", x.bus(1000, 81), BusThrees.OUTSIDE);
        c.due("bus(1000, 1)", x.bus(1000, 1), 0);
        c.visit(x, 0, 0, 1000, 1010, 1, 0, 1, 99);
        c.due("bus(1010, 80)", x.bus(1010, 80), 1);
        c.visit(x, 1, 0, 1010, 1010 + 168, 80, 0, 80, 20);
    }

    // ---- promise 4

    /** So many come to STOP 0 till the BUS comes, and all go one STOP. */
    private static BusThrees some(int people) {
        BusThrees x = new BusThrees();
        x.stop(0, 1, 10);
        x.stop(0, 2, 1);
        x.bus(10 * people, 80);
        States.onlyRidingTakesTime(x);
        return x;
    }

    /** Tries a number just outside on both sides, then the least and the greatest one. */
    private static void bounds(BusThrees x, int which, int most, Runnable ofLeast, Runnable ofMost) {
        c.due("set(" + which + ", most + 1)", x.set(which, most + 1), BusThrees.OUTSIDE);
        c.due("set(" + which + ", -1)", x.set(which, -1), BusThrees.OUTSIDE);
        ofLeast.run();
        c.due("set(" + which + ", most)", x.set(which, most), 0);
        ofMost.run();
        c.due("set(" + which + ", most + 1)", x.set(which, most + 1), BusThrees.OUTSIDE);
        c.due("set(" + which + ", -1)", x.set(which, -1), BusThrees.OUTSIDE);
        ofMost.run();
        c.due("told(" + (4 + which) + ")", x.told(4 + which), most);
        c.due("set(" + which + ", 0)", x.set(which, 0), most);
        ofLeast.run();
        c.due("told(" + (4 + which) + ")", x.told(4 + which), 0);
    }

    /** "DOOR (0 to 60; 8 at first)". */
    private static void doorNoneToSixty() {
        BusThrees x = some(3);
        bounds(x, 0, 60, () -> c.visit(x, 0, 0, 30, 30, 3), () -> c.visit(x, 0, 0, 30, 90, 3));
    }

    /** "ON (0 to 10; 2)". */
    private static void onNoneToTen() {
        BusThrees x = some(3);
        bounds(x, 1, 10, () -> c.visit(x, 0, 0, 30, 30, 3), () -> c.visit(x, 0, 0, 30, 60, 3));
    }

    /** "OFF (0 to 10; 1)". */
    private static void offNoneToTen() {
        BusThrees x = some(3);
        bounds(x, 2, 10, () -> c.visit(x, 0, 1, 150, 150, 0, 3), () -> c.visit(x, 0, 1, 150, 180, 0, 3));
    }

    /** "3 PASS (1, 0)". */
    private static void passOneOrNone() {
        BusThrees x = new BusThrees();
        x.bus(0, 1);
        x.bus(1, 1);
        x.late(0, 0, 50);
        bounds(x, 3, 1, () -> c.visit(x, 1, 0, 50, 50), () -> c.visit(x, 1, 0, 1, 1));
    }

    /** "TWO (0 to 600; 30 at first)". */
    private static void twoNoneToSixHundred() {
        BusThrees x = new BusThrees();
        x.bus(0, 1);
        x.bus(30, 1);
        c.due("one(0) by 30", x.one(0), 0);
        BusThrees y = new BusThrees();
        y.bus(0, 1);
        y.bus(31, 1);
        c.due("one(0) by 30", y.one(0), BusThrees.NONE);
        BusThrees far = new BusThrees();
        far.bus(0, 1);
        far.bus(600, 1);
        far.set(4, 0);
        bounds(far, 4, 600, () -> c.due("one(0)", far.one(0), BusThrees.NONE), () -> c.due("one(0)", far.one(0), 0));
        far.set(4, 599);
        c.due("one(0) by 599", far.one(0), BusThrees.NONE);
    }

    // ---- promises 5 and 6

    /** "LATENESSES, 10 at most, numbered from 0 on". */
    private static void latenessesTenAtMost() {
        BusThrees x = new BusThrees();
        x.bus(0, 1);
        for (int n = 0; n < 10; n++) {
            c.due("late " + n, x.late(0, 0, 1), n);
            c.due("told(1)", x.told(1), n + 1);
        }
        c.due("an eleventh", x.late(0, 0, 1), BusThrees.FULL);
        c.due("an eleventh", x.late(0, 8, 900), BusThrees.FULL);
        c.due("told(1)", x.told(1), 10);
        c.visit(x, 0, 0, 0, 10);
        c.due("mend() makes room", x.mend(), 9);
        c.visit(x, 0, 0, 0, 9);
        c.due("late then", x.late(0, 0, 100), 9);
        c.visit(x, 0, 0, 0, 109);
        c.due("an eleventh", x.late(0, 0, 1), BusThrees.FULL);
    }

    /** "so many seconds (1 to 900) longer". */
    private static void latenessOneToNineHundred() {
        BusThrees x = new BusThrees();
        x.bus(5, 1);
        c.due("late(0, 3, 0)", x.late(0, 3, 0), BusThrees.OUTSIDE);
        c.due("late(0, 3, 901)", x.late(0, 3, 901), BusThrees.OUTSIDE);
        c.visit(x, 0, 3, 365, 365);
        c.due("told(1)", x.told(1), 0);
        c.due("late(0, 3, 1)", x.late(0, 3, 1), 0);
        c.visit(x, 0, 3, 365, 366);
        c.due("late(0, 3, 900)", x.late(0, 3, 900), 1);
        c.visit(x, 0, 3, 365, 1266);
    }

    /** "all of them together". */
    private static void latenessesAllTogether() {
        BusThrees x = new BusThrees();
        x.bus(0, 1);
        x.bus(7200, 1);
        for (int n = 1; n <= 10; n++) {
            x.late(0, 4, 900);
            c.visit(x, 0, 4, 480, 480 + 900 * n);
        }
        c.visit(x, 0, 5, 9600, 9600);
        c.visit(x, 1, 4, 9480, 9480);
    }

    /** "also if nobody gets on or off". */
    private static void latenessAlsoIfNobodyGetsOnOrOff() {
        BusThrees x = new BusThrees();
        x.bus(20, 1);
        x.late(0, 0, 7);
        c.visit(x, 0, 0, 20, 27, 0, 0, 0, 0);
        x.stop(0, 1, 20);
        c.visit(x, 0, 0, 20, 37, 1, 0, 1, 0);
        x.late(0, 3, 7);
        c.visit(x, 0, 3, 397, 413, 0, 1, 0, 0);
    }

    /** "UNKNOWN: STOPS 0 to 8". */
    private static void latenessAtEachStopButTheLast() {
        for (int stop = 0; stop < 9; stop++) {
            BusThrees x = new BusThrees();
            x.bus(0, 1);
            c.due("late(0, " + stop + ", 33)", x.late(0, stop, 33), 0);
            c.visit(x, 0, stop, 120 * stop, 120 * stop + 33);
            c.visit(x, 0, 9, 1080 + 33, 1080 + 33);
        }
        BusThrees y = new BusThrees();
        y.bus(0, 1);
        c.due("late(0, 9, 33)", y.late(0, 9, 33), BusThrees.UNKNOWN);
        c.due("late(0, -1, 33)", y.late(0, -1, 33), BusThrees.UNKNOWN);
        c.due("told(1)", y.told(1), 0);
        c.visit(y, 0, 9, 1080, 1080);
    }

    /** A TURNED BUS may have a LATENESS where it does not come: nothing refuses it, and it does nothing. */
    private static void latenessWhereItDoesNotCome() {
        BusThrees x = new BusThrees();
        x.bus(0, 1);
        x.turn(0, 3);
        c.due("late(0, 4, 33)", x.late(0, 4, 33), 0);
        c.visit(x, 0, 3, 360, 360);
        c.visit(x, 0, 4, BusThrees.NONE);
        x.turn(0, 9);
        c.visit(x, 0, 4, 480, 513);
    }

    /** "The last LATENESS goes: how many are left. NO: there is none." */
    private static void mendTheLast() {
        BusThrees x = new BusThrees();
        c.due("mend()", x.mend(), BusThrees.NO);
        x.bus(0, 1);
        c.due("mend()", x.mend(), BusThrees.NO);
        for (int n = 0; n < 10; n++) {
            x.late(0, n % 9, 1 << (n % 9));
        }
        // STOPS 0 to 8: 1, 2, 4, ..., 256; then one more of 1 at STOP 0.
        int[] leftAtTheEnd = {512, 511, 255, 127, 63, 31, 15, 7, 3, 1, 0};
        for (int n = 10; n > 0; n--) {
            c.visit(x, 0, 9, 1080 + leftAtTheEnd[10 - n]);
            c.due("mend() of " + n, x.mend(), n - 1);
        }
        c.visit(x, 0, 9, 1080);
        c.due("mend()", x.mend(), BusThrees.NO);
        c.due("told(1)", x.told(1), 0);
        c.due("numbered from 0 again", x.late(0, 0, 1), 0);
    }

    // ---- promise 7

    /** "A BUS is TURNED at a STOP (1 to 8; 9: it is not): which it was." */
    private static void turnOneToEightAndNine() {
        for (int stop = 1; stop < 10; stop++) {
            BusThrees x = new BusThrees();
            x.bus(0, 1);
            x.bus(7200, 1);
            c.due("turn(0, " + stop + ")", x.turn(0, stop), 9);
            c.due("turn(0, 0)", x.turn(0, 0), BusThrees.OUTSIDE);
            c.due("turn(0, 10)", x.turn(0, 10), BusThrees.OUTSIDE);
            c.due("turn(2, 1)", x.turn(2, 1), BusThrees.UNKNOWN);
            for (int there = 0; there < 10; there++) {
                c.visit(x, 0, there, there <= stop ? 120 * there : BusThrees.NONE);
                c.visit(x, 1, there, 7200 + 120 * there);
            }
            for (int there = 0; there < 9; there++) {
                c.due("follow(" + there + ", 0)", x.follow(there, 0), there < stop ? 1 : 0);
            }
            c.due("turn(0, 9)", x.turn(0, 9), stop);
            c.visit(x, 0, 9, 1080);
            c.due("turn(1, 9)", x.turn(1, 9), 9);
        }
    }

    // ---- promise 8

    /** "NONE: it does not come there. UNKNOWN; OUTSIDE." */
    private static void atEachStop() {
        BusThrees x = new BusThrees();
        x.bus(0, 1);
        x.turn(0, 1);
        for (int what = 0; what < 6; what++) {
            c.due("at(0, 0, " + what + ")", x.at(0, 0, what), 0);
            c.due("at(0, 1, " + what + ")", x.at(0, 1, what), what < 2 ? 120 : 0);
            for (int stop = 2; stop < 10; stop++) {
                c.due("at(0, " + stop + ", " + what + ")", x.at(0, stop, what), BusThrees.NONE);
            }
            c.due("at(0, 10, " + what + ")", x.at(0, 10, what), BusThrees.UNKNOWN);
            c.due("at(0, -1, " + what + ")", x.at(0, -1, what), BusThrees.UNKNOWN);
            c.due("at(1, 0, " + what + ")", x.at(1, 0, what), BusThrees.UNKNOWN);
        }
        c.due("at(0, 1, 6)", x.at(0, 1, 6), BusThrees.OUTSIDE);
        c.due("at(0, 1, -1)", x.at(0, 1, -1), BusThrees.OUTSIDE);
        c.due("at(0, 2, 6)", x.at(0, 2, 6), BusThrees.OUTSIDE);
    }

    /** "whose STOP it is gets off, then of those who wait there ...": the only SEAT is free again. */
    private static void getOffThenOn() {
        BusThrees x = new BusThrees();
        x.bus(60, 1);
        x.stop(0, 1, 60);
        x.stop(0, 2, 1);
        x.stop(1, 1, 90);
        c.visit(x, 0, 0, 60, 70, 1, 0, 1, 0);
        c.visit(x, 0, 1, 190, 190 + 8 + 2 + 1, 1, 1, 1, 1);
        c.visit(x, 0, 2, 321, 321, 0, 0, 1, 0);
    }

    /** "who came by that second": not those who come while it stands. */
    private static void whoCameByThatSecond() {
        BusThrees x = new BusThrees();
        x.bus(100, 80);
        x.bus(7200, 80);
        x.stop(0, 1, 100);
        x.late(0, 0, 900);
        c.visit(x, 0, 0, 100, 1010, 1, 0, 1, 0);
        // The rest is there for the next: 72 have come, one is gone.
        c.visit(x, 1, 0, 7200, 7200 + 8 + 142, 71, 0, 71, 0);
        BusThrees soon = new BusThrees();
        soon.bus(99, 80);
        soon.stop(0, 1, 100);
        soon.late(0, 0, 900);
        c.visit(soon, 0, 0, 99, 999, 0, 0, 0, 0);
    }

    /** "as many get on as there are free SEATS, longest waiting first". */
    private static void asManyAsFreeSeatsLongestWaitingFirst() {
        BusThrees x = new BusThrees();
        x.bus(40, 3);
        x.stop(0, 1, 10);
        c.visit(x, 0, 0, 40, 54, 3, 0, 3, 1);
        // Those of 10, 20, 30; not he of 40.
        c.due("they waited", x.waited(0, 1), 30 + 20 + 10);
        c.due("the longest", x.waited(0, 2), 30);
        BusThrees all = new BusThrees();
        all.bus(40, 4);
        all.stop(0, 1, 10);
        c.visit(all, 0, 0, 40, 56, 4, 0, 4, 0);
        BusThrees room = new BusThrees();
        room.bus(40, 5);
        room.stop(0, 1, 10);
        c.visit(room, 0, 0, 40, 56, 4, 0, 4, 0);
    }

    /** "If any gets on or off, it stands DOOR and ON, OFF for each; else not." */
    private static void standsOnlyIfAnyGetsOnOrOff() {
        BusThrees x = new BusThrees();
        x.bus(30, 1);
        x.set(0, 50);
        c.visit(x, 0, 0, 30, 30, 0, 0, 0, 0);
        x.stop(0, 1, 30);
        x.stop(0, 2, 2);
        x.stop(1, 1, 10);
        x.stop(2, 1, 0);
        c.visit(x, 0, 0, 30, 82, 1, 0, 1, 0);
        // At STOP 1 twenty wait, but there is no SEAT: it does not stand.
        c.visit(x, 0, 1, 202, 202, 0, 0, 1, 20);
        c.visit(x, 0, 2, 322, 373, 0, 1, 0, 0);
        c.visit(x, 0, 3, 493, 493, 0, 0, 0, 0);
    }

    /** "At each STOP BUSES come by the second, of like ones by number". */
    private static void likeOnesComeByNumber() {
        for (int more = 0; more < 2; more++) {
            BusThrees x = new BusThrees();
            x.bus(0, 80);
            x.bus(50, 80);
            x.set(3, 1);
            x.late(0, 0, 50 + more);
            x.stop(1, 1, 170);
            c.visit(x, 0, 1, 170 + more);
            c.visit(x, 1, 1, 170);
            // The only one who has come gets on the first: of like ones BUS 0, else BUS 1.
            c.due("on BUS 0", x.at(0, 1, 2), more == 0 ? 1 : 0);
            c.due("on BUS 1", x.at(1, 1, 2), more);
        }
    }

    /** "if none may PASS (at first), a BUS that would come before one ... has left comes as that leaves". */
    private static void noneMayPassAtFirst() {
        for (int second = 98; second <= 102; second++) {
            BusThrees x = new BusThrees();
            x.bus(0, 80);
            x.late(0, 0, 100);
            x.bus(second, 80);
            c.visit(x, 1, 0, Math.max(second, 100), Math.max(second, 100));
            x.set(3, 1);
            c.visit(x, 1, 0, second, second);
        }
        // One of a lesser number but two ahead is in the way as well: that between ends before.
        BusThrees y = new BusThrees();
        y.bus(0, 80);
        y.bus(10, 80);
        y.bus(20, 80);
        y.turn(1, 1);
        y.late(0, 2, 500);
        c.visit(y, 0, 2, 240, 740);
        c.visit(y, 1, 2, BusThrees.NONE);
        c.visit(y, 2, 2, 740, 740);
        // At STOP 9 too: two get off at 1080 till 1110.
        BusThrees z = new BusThrees();
        z.bus(0, 80);
        z.bus(1, 80);
        z.set(0, 30);
        z.set(1, 0);
        z.set(2, 0);
        z.stop(8, 1, 480);
        c.visit(z, 0, 8, 960, 990, 2);
        c.visit(z, 1, 8, 990, 990, 0);
        c.visit(z, 0, 9, 1110, 1140, 0, 2);
        c.visit(z, 1, 9, 1140, 1140, 0, 0);
    }

    /** "A BUS TURNED at a STOP ends there: all get off (OFF for each), ... nobody gets on." */
    private static void turnedAllGetOffNobodyGetsOn() {
        for (int turned = 1; turned < 9; turned++) {
            BusThrees x = new BusThrees();
            x.bus(30, 9);
            x.stop(0, 1, 10);
            x.stop(0, 2, 4);
            x.stop(turned, 1, 10);
            c.holds("some get on at " + turned + " before it is TURNED", x.at(0, turned, 2) > 0);
            x.turn(0, turned);
            int comes = 30 + 14 + 120 * turned + (turned > 4 ? 11 : 0);
            int stands = turned > 4 ? 0 : 11;
            c.visit(x, 0, turned, comes, comes + stands, 0, turned == 4 ? 3 : 0, 0, comes / 10);
            c.due("STRANDED at " + turned, x.all(2), turned < 4 ? 3 : 0);
            c.due("waited(" + turned + ", 0)", x.waited(turned, 0), 0);
        }
    }

    /** "5 who are left waiting, who had come": where a BUS is TURNED, those whom none ahead took. */
    private static void turnedLeavesWhoIsThere() {
        BusThrees x = new BusThrees();
        x.bus(0, 2);
        x.bus(200, 80);
        x.stop(3, 1, 100);
        x.turn(1, 3);
        // BUS 0 at 360 takes those of 100 and 200; BUS 1 at 560 finds those of 300, 400, 500.
        c.visit(x, 0, 3, 360, 372, 2, 0, 2, 1);
        c.visit(x, 1, 3, 560, 560, 0, 0, 0, 3);
    }

    /** "At STOP 9 all get off, each BUS ends." */
    private static void atTheLastStopAllGetOff() {
        BusThrees x = new BusThrees();
        x.bus(800, 80);
        x.stop(0, 1, 10);
        x.stop(0, 2, 9);
        c.visit(x, 0, 0, 800, 968, 80, 0, 80, 0);
        c.visit(x, 0, 8, 968 + 960, 968 + 960, 0, 0, 80, 0);
        c.visit(x, 0, 9, 968 + 1080, 968 + 1080 + 8 + 80, 0, 80, 0, 0);
        c.due("at(0, 10, 0)", x.at(0, 10, 0), BusThrees.UNKNOWN);
        c.due("nobody is STRANDED", x.all(2), 0);
    }
}
