/** Promises 1 to 8: the line. All numbers are worked out by hand from the document. */
public final class LineTest {
    private static final Check c = new Check("LineTest");

    private LineTest() {
    }

    public static void main(String[] args) {
        promise1NewObject();
        promise2Stop();
        promise2EachStopAndEdge();
        promise3Bus();
        promise4Set();
        promise5Late();
        promise6Mend();
        promise7Turn();
        promise8AtComesAndLeaves();
        promise8AtSeats();
        promise8AtBehindAnother();
        promise8AtPassing();
        promise8AtLikeSeconds();
        promise8AtTurned();
        promise8AtTurnedOnlyLater();
        promise8AtTurnedStandsInTheWay();
        promise8AtTheEnd();
        promise8AtRefusals();
        c.end();
    }

    private static void promise1NewObject() {
        BusThrees x = new BusThrees();
        int[] told = {0, 0, 0, 0, 8, 2, 1, 0, 30};
        for (int what = 0; what < told.length; what++) {
            c.due("new: told(" + what + ")", x.told(what), told[what]);
        }
        c.due("new: fault()", x.fault(), 0);
        c.due("new: free()", x.free(), 0);
        c.due("new: wipe()", x.wipe(), 0);
        c.due("new: all(0)", x.all(0), 0);
        c.due("new: all(1)", x.all(1), 0);
        c.due("new: all(2)", x.all(2), 0);
        for (int stop = 0; stop < 9; stop++) {
            c.due("new: waited", x.waited(stop, 0), 0);
            c.due("new: RIDE", x.stop(stop, 0, 10), 120);
            c.due("new: GAP", x.stop(stop, 1, 10), 0);
            c.due("new: TRIP", x.stop(stop, 2, 1), 3);
        }
        BusThrees empty = new BusThrees();
        empty.bus(7200, 80);
        c.visit(empty, 0, 9, 8280, 8280, 0, 0, 0, 0);
        c.due("objects share nothing", new BusThrees().told(0), 0);
    }

    private static void promise2Stop() {
        BusThrees x = new BusThrees();
        c.due("stop(-1, 0, 10)", x.stop(-1, 0, 10), BusThrees.UNKNOWN);
        c.due("stop(9, 0, 10)", x.stop(9, 0, 10), BusThrees.UNKNOWN);
        c.due("stop(9, 7, -4): UNKNOWN first", x.stop(9, 7, -4), BusThrees.UNKNOWN);
        c.due("stop(MIN, 0, 10)", x.stop(Integer.MIN_VALUE, 0, 10), BusThrees.UNKNOWN);
        c.due("stop(MAX, 0, 10)", x.stop(Integer.MAX_VALUE, 0, 10), BusThrees.UNKNOWN);
        c.due("stop(3, -1, 10)", x.stop(3, -1, 10), BusThrees.OUTSIDE);
        c.due("stop(3, 3, 10)", x.stop(3, 3, 10), BusThrees.OUTSIDE);
        int[][] refused = {{9, 901, 0, -10}, {9, 901, 1, -1}, {0, 10, -1, Integer.MAX_VALUE}};
        int[][] taken = {{10, 900, 120}, {10, 900, 0}, {1, 9, 3}};
        int[] first = {120, 0, 3};
        for (int what = 0; what < 3; what++) {
            for (int v : refused[what]) {
                c.due("stop(3, " + what + ", " + v + ")", x.stop(3, what, v), BusThrees.OUTSIDE);
            }
            int was = first[what];
            for (int v : taken[what]) {
                c.due("stop(3, " + what + ", " + v + ")", x.stop(3, what, v), was);
                was = v;
            }
        }
    }

    private static void promise2EachStopAndEdge() {
        BusThrees x = new BusThrees();
        for (int stop = 0; stop < 9; stop++) {
            x.stop(stop, 0, 10 + stop);
            x.stop(stop, 1, 20 + stop);
            x.stop(stop, 2, 1 + stop);
        }
        for (int stop = 0; stop < 9; stop++) {
            c.due("RIDE of its own", x.stop(stop, 0, 900), 10 + stop);
            c.due("GAP of its own", x.stop(stop, 1, 0), 20 + stop);
            c.due("TRIP of its own", x.stop(stop, 2, 9), 1 + stop);
        }
        x.bus(0, 1);
        c.visit(x, 0, 9, 8100, 8100);
        BusThrees far = new BusThrees();
        far.bus(20, 5);
        far.stop(0, 1, 10);
        far.stop(0, 2, 1);
        far.stop(1, 1, 50);
        far.stop(1, 2, 2);
        c.visit(far, 0, 0, 20, 32, 2, 0, 2, 0);
        c.visit(far, 0, 1, 152, 168, 3, 2, 3, 0);
        c.visit(far, 0, 2, 288, 288, 0, 0, 3, 0);
        c.visit(far, 0, 3, 408, 419, 0, 3, 0, 0);
    }

    private static void promise3Bus() {
        BusThrees x = new BusThrees();
        int[][] refused = {{-1, 5}, {7201, 5}, {0, 0}, {0, 81}, {0, -1}, {Integer.MIN_VALUE, 5}, {0, Integer.MAX_VALUE}};
        for (int[] r : refused) {
            c.due("bus(" + r[0] + ", " + r[1] + ")", x.bus(r[0], r[1]), BusThrees.OUTSIDE);
        }
        c.due("refused ones are not there", x.told(0), 0);
        c.due("bus(50, 1)", x.bus(50, 1), 0);
        c.due("bus(49, 1)", x.bus(49, 1), BusThrees.OUTSIDE);
        c.due("bus(50, 80)", x.bus(50, 80), 1);
        for (int n = 2; n < 8; n++) {
            c.due("bus number " + n, x.bus(7200, 10), n);
        }
        c.due("a ninth", x.bus(7200, 10), BusThrees.FULL);
        c.due("a ninth, too soon", x.bus(7199, 10), BusThrees.OUTSIDE);
        c.due("a ninth without seats", x.bus(7200, 0), BusThrees.OUTSIDE);
        c.due("eight", x.told(0), 8);
        c.visit(x, 0, 0, 50, 50);
        c.visit(x, 1, 0, 50, 50);
        c.visit(x, 7, 0, 7200, 7200);
    }

    private static void promise4Set() {
        BusThrees x = new BusThrees();
        int[] most = {60, 10, 10, 1, 600};
        int[] first = {8, 2, 1, 0, 30};
        for (int which = 0; which < 5; which++) {
            c.due("set(" + which + ", -1)", x.set(which, -1), BusThrees.OUTSIDE);
            c.due("set(" + which + ", most + 1)", x.set(which, most[which] + 1), BusThrees.OUTSIDE);
            c.due("set(" + which + ", most)", x.set(which, most[which]), first[which]);
            c.due("told of it", x.told(4 + which), most[which]);
            c.due("set(" + which + ", 0)", x.set(which, 0), most[which]);
        }
        c.due("set(-1, 0)", x.set(-1, 0), BusThrees.OUTSIDE);
        c.due("set(5, 0)", x.set(5, 0), BusThrees.OUTSIDE);
        c.due("set(MIN, 0)", x.set(Integer.MIN_VALUE, 0), BusThrees.OUTSIDE);
        c.due("set(0, MIN)", x.set(0, Integer.MIN_VALUE), BusThrees.OUTSIDE);
        // DOOR 10, ON 3, OFF 4: two get on at STOP 0 and off at STOP 3.
        BusThrees y = new BusThrees();
        y.bus(25, 9);
        y.stop(0, 1, 10);
        y.set(0, 10);
        y.set(1, 3);
        y.set(2, 4);
        c.visit(y, 0, 0, 25, 41, 2, 0, 2, 0);
        c.visit(y, 0, 3, 401, 419, 0, 2, 0, 0);
        y.set(0, 0);
        y.set(1, 0);
        y.set(2, 0);
        c.visit(y, 0, 0, 25, 25, 2, 0, 2, 0);
        c.visit(y, 0, 3, 385, 385, 0, 2, 0, 0);
    }

    private static void promise5Late() {
        BusThrees x = new BusThrees();
        c.due("late without BUSES", x.late(0, 0, 5), BusThrees.UNKNOWN);
        x.bus(0, 5);
        c.due("late(-1, 0, 5)", x.late(-1, 0, 5), BusThrees.UNKNOWN);
        c.due("late(1, 0, 5)", x.late(1, 0, 5), BusThrees.UNKNOWN);
        c.due("late(0, -1, 5)", x.late(0, -1, 5), BusThrees.UNKNOWN);
        c.due("late(0, 9, 5)", x.late(0, 9, 5), BusThrees.UNKNOWN);
        c.due("late(0, 9, 0): UNKNOWN first", x.late(0, 9, 0), BusThrees.UNKNOWN);
        c.due("late(0, 0, 0)", x.late(0, 0, 0), BusThrees.OUTSIDE);
        c.due("late(0, 0, 901)", x.late(0, 0, 901), BusThrees.OUTSIDE);
        c.due("refused ones are not there", x.told(1), 0);
        for (int n = 0; n < 10; n++) {
            c.due("lateness " + n, x.late(0, n % 9, n == 0 ? 900 : n), n);
        }
        c.due("an eleventh", x.late(0, 0, 5), BusThrees.FULL);
        c.due("an eleventh of 0 seconds", x.late(0, 0, 0), BusThrees.OUTSIDE);
        c.due("an eleventh of no BUS", x.late(1, 0, 0), BusThrees.UNKNOWN);
        // 900 and 9 together at STOP 0; one of 8 at STOP 8; nobody gets on or off.
        c.visit(x, 0, 0, 0, 909, 0, 0, 0, 0);
        c.visit(x, 0, 8, 909 + 8 * 120 + 28, 909 + 8 * 120 + 36);
        c.due("told(1)", x.told(1), 10);
        BusThrees y = new BusThrees();
        y.bus(25, 9);
        y.stop(0, 1, 10);
        y.late(0, 0, 7);
        c.visit(y, 0, 0, 25, 44, 2, 0, 2, 0);
    }

    private static void promise6Mend() {
        BusThrees x = new BusThrees();
        c.due("mend() without any", x.mend(), BusThrees.NO);
        x.bus(0, 5);
        x.late(0, 0, 100);
        x.late(0, 0, 20);
        x.late(0, 1, 3);
        c.visit(x, 0, 1, 240, 243);
        c.due("mend()", x.mend(), 2);
        c.visit(x, 0, 1, 240, 240);
        c.due("mend()", x.mend(), 1);
        c.visit(x, 0, 1, 220, 220);
        c.due("a new one has the free number", x.late(0, 1, 5), 1);
        c.visit(x, 0, 1, 220, 225);
        c.due("mend()", x.mend(), 1);
        c.due("mend()", x.mend(), 0);
        c.due("mend()", x.mend(), BusThrees.NO);
        c.visit(x, 0, 1, 120, 120);
        c.due("told(1)", x.told(1), 0);
    }

    private static void promise7Turn() {
        BusThrees x = new BusThrees();
        c.due("turn without BUSES", x.turn(0, 5), BusThrees.UNKNOWN);
        x.bus(0, 5);
        c.due("turn(-1, 5)", x.turn(-1, 5), BusThrees.UNKNOWN);
        c.due("turn(1, 0): UNKNOWN first", x.turn(1, 0), BusThrees.UNKNOWN);
        c.due("turn(0, 0)", x.turn(0, 0), BusThrees.OUTSIDE);
        c.due("turn(0, 10)", x.turn(0, 10), BusThrees.OUTSIDE);
        c.due("turn(0, -1)", x.turn(0, -1), BusThrees.OUTSIDE);
        c.due("turn(0, 1)", x.turn(0, 1), 9);
        c.visit(x, 0, 1, 120, 120);
        c.visit(x, 0, 2, BusThrees.NONE, BusThrees.NONE, BusThrees.NONE);
        c.due("turn(0, 8)", x.turn(0, 8), 1);
        c.visit(x, 0, 8, 960, 960);
        c.visit(x, 0, 9, BusThrees.NONE);
        c.due("turn(0, 9)", x.turn(0, 9), 8);
        c.visit(x, 0, 9, 1080, 1080);
        c.due("turn(0, 9)", x.turn(0, 9), 9);
        x.bus(0, 5);
        c.due("a new BUS is not TURNED", x.turn(1, 4), 9);
        c.due("each of its own", x.turn(0, 4), 9);
    }

    private static void promise8AtComesAndLeaves() {
        BusThrees x = new BusThrees();
        x.bus(0, 10);
        x.bus(100, 10);
        x.stop(0, 0, 60);
        x.stop(0, 1, 30);
        x.stop(0, 2, 2);
        c.visit(x, 0, 0, 0, 0, 0, 0, 0, 0);
        c.visit(x, 0, 1, 60, 60, 0, 0, 0, 0);
        c.visit(x, 1, 0, 100, 114, 3, 0, 3, 0);
        c.visit(x, 1, 1, 174, 174, 0, 0, 3, 0);
        c.visit(x, 1, 2, 294, 305, 0, 3, 0, 0);
        c.visit(x, 1, 9, 305 + 7 * 120, 305 + 7 * 120, 0, 0, 0, 0);
        // Who comes at the second of the BUS is in time; a second later is not.
        BusThrees y = new BusThrees();
        y.bus(29, 10);
        y.bus(60, 10);
        y.stop(0, 1, 30);
        c.visit(y, 0, 0, 29, 29, 0, 0, 0, 0);
        c.visit(y, 1, 0, 60, 72, 2, 0, 2, 0);
    }

    private static void promise8AtSeats() {
        // Three seats; at STOP 1 two get off, so that two of five get on.
        BusThrees x = new BusThrees();
        x.bus(20, 3);
        x.stop(0, 1, 10);
        x.stop(0, 2, 1);
        x.stop(1, 1, 30);
        c.visit(x, 0, 0, 20, 32, 2, 0, 2, 0);
        c.visit(x, 0, 1, 152, 152 + 8 + 6 + 2, 3, 2, 3, 2);
        c.visit(x, 0, 2, 288, 288, 0, 0, 3, 0);
        x.stop(2, 1, 100);
        c.visit(x, 0, 2, 288, 288, 0, 0, 3, 2);
        x.stop(0, 2, 2);
        c.visit(x, 0, 1, 152, 162, 1, 0, 3, 4);
        c.visit(x, 0, 2, 282, 282 + 8 + 4 + 2, 2, 2, 3, 0);
    }

    private static void promise8AtBehindAnother() {
        BusThrees x = new BusThrees();
        x.bus(0, 10);
        x.bus(100, 10);
        x.stop(0, 0, 60);
        x.stop(0, 1, 30);
        x.late(0, 1, 200);
        c.visit(x, 0, 1, 60, 260, 0, 0, 0, 0);
        c.visit(x, 1, 1, 260, 260, 0, 0, 3, 0);
        c.visit(x, 1, 2, 380, 380);
        x.late(0, 1, 40);
        c.visit(x, 0, 1, 60, 300);
        c.visit(x, 1, 1, 300, 300);
        // At STOP 0 as well: it comes as the one ahead leaves, and finds who came till then.
        BusThrees y = new BusThrees();
        y.bus(40, 2);
        y.bus(41, 9);
        y.bus(42, 9);
        y.stop(0, 1, 10);
        c.visit(y, 0, 0, 40, 52, 2, 0, 2, 2);
        c.visit(y, 1, 0, 52, 66, 3, 0, 3, 0);
        c.visit(y, 2, 0, 66, 76, 1, 0, 1, 0);
    }

    private static void promise8AtPassing() {
        BusThrees x = new BusThrees();
        x.bus(0, 1);
        x.bus(50, 80);
        x.late(0, 0, 300);
        x.stop(1, 1, 10);
        x.stop(1, 2, 9);
        x.set(3, 1);
        c.visit(x, 0, 0, 0, 300);
        c.visit(x, 1, 0, 50, 50);
        c.visit(x, 1, 1, 170, 212, 17, 0, 17, 0);
        c.visit(x, 0, 1, 420, 430, 1, 0, 1, 24);
        c.visit(x, 1, 2, 332, 332);
        c.visit(x, 0, 2, 550, 550);
        c.visit(x, 1, 9, 1172, 1172 + 8 + 17, 0, 17, 0, 0);
        c.visit(x, 0, 9, 1390, 1399, 0, 1, 0, 0);
        x.set(3, 0);
        c.visit(x, 1, 0, 300, 300);
        c.visit(x, 0, 1, 420, 430, 1, 0, 1, 41);
        c.visit(x, 1, 1, 430, 430 + 8 + 84, 42, 0, 42, 0);
    }

    private static void promise8AtLikeSeconds() {
        BusThrees x = new BusThrees();
        x.bus(100, 2);
        x.bus(100, 2);
        x.stop(0, 1, 20);
        c.visit(x, 0, 0, 100, 112, 2, 0, 2, 3);
        c.visit(x, 1, 0, 112, 124, 2, 0, 2, 1);
        x.set(3, 1);
        c.visit(x, 0, 0, 100, 112, 2, 0, 2, 3);
        c.visit(x, 1, 0, 100, 112, 2, 0, 2, 1);
    }

    /** Three at STOP 0 want to go to 5, one at STOP 1 to 2, where the BUS is TURNED. */
    private static BusThrees turned() {
        BusThrees x = new BusThrees();
        x.bus(30, 5);
        x.stop(0, 1, 10);
        x.stop(0, 2, 5);
        x.stop(1, 1, 100);
        x.stop(1, 2, 1);
        x.stop(2, 1, 50);
        x.turn(0, 2);
        return x;
    }

    private static void promise8AtTurned() {
        BusThrees x = turned();
        c.visit(x, 0, 0, 30, 44, 3, 0, 3, 0);
        c.visit(x, 0, 1, 164, 174, 1, 0, 4, 0);
        c.visit(x, 0, 2, 294, 306, 0, 1, 0, 5);
        c.visit(x, 0, 3, -6, -6, -6, -6, -6, -6);
        x.late(0, 2, 11);
        c.visit(x, 0, 2, 294, 317, 0, 1, 0, 5);
        x.late(0, 3, 11);
        c.visit(x, 0, 3, BusThrees.NONE);
        BusThrees empty = new BusThrees();
        empty.bus(0, 5);
        empty.turn(0, 1);
        c.visit(empty, 0, 1, 120, 120, 0, 0, 0, 0);
    }

    private static void promise8AtTurnedOnlyLater() {
        BusThrees x = turned();
        x.turn(0, 9);
        // At STOP 2 one gets off and two of five find seats.
        c.visit(x, 0, 2, 294, 294 + 8 + 4 + 1, 2, 1, 5, 3);
        x.turn(0, 2);
        c.visit(x, 0, 2, 294, 306, 0, 1, 0, 5);
        x.turn(0, 1);
        c.visit(x, 0, 1, 164, 175, 0, 0, 0, 1);
    }

    private static void promise8AtTurnedStandsInTheWay() {
        BusThrees x = turned();
        x.bus(31, 5);
        c.visit(x, 1, 0, 44, 54, 1, 0, 1, 0);
        c.visit(x, 1, 1, 174, 174, 0, 0, 1, 0);
        c.visit(x, 1, 2, 306, 322, 4, 0, 5, 2);
        // Behind it the way is free.
        c.visit(x, 1, 3, 442, 442);
        x.set(3, 1);
        // STOP 0 at 31: nobody new. STOP 1 at 151, ahead of the other, which then finds nobody.
        c.visit(x, 1, 1, 151, 161, 1, 0, 1, 0);
        c.visit(x, 0, 1, 164, 164, 0, 0, 3, 0);
        c.visit(x, 1, 2, 281, 281 + 8 + 10 + 1, 5, 1, 5, 0);
        c.visit(x, 0, 2, 284, 295, 0, 0, 0, 0);
    }

    private static void promise8AtTheEnd() {
        // Those of STOP 8 go to STOP 9 whatever their TRIP; two BUSES are in each other's way there.
        BusThrees x = new BusThrees();
        x.bus(0, 80);
        x.bus(0, 80);
        x.stop(8, 1, 90);
        x.stop(8, 2, 9);
        x.stop(8, 0, 10);
        c.visit(x, 0, 8, 960, 988, 10, 0, 10, 0);
        c.visit(x, 0, 9, 998, 1016, 0, 10, 0, 0);
        c.visit(x, 1, 8, 988, 988, 0, 0, 0, 0);
        c.visit(x, 1, 9, 1016, 1016, 0, 0, 0, 0);
        x.set(3, 1);
        c.visit(x, 1, 8, 960, 960, 0, 0, 0, 0);
        c.visit(x, 1, 9, 970, 970, 0, 0, 0, 0);
    }

    private static void promise8AtRefusals() {
        BusThrees x = new BusThrees();
        c.due("at without BUSES", x.at(0, 0, 0), BusThrees.UNKNOWN);
        x.bus(0, 1);
        x.turn(0, 3);
        c.due("at(-1, 0, 0)", x.at(-1, 0, 0), BusThrees.UNKNOWN);
        c.due("at(1, 0, 0)", x.at(1, 0, 0), BusThrees.UNKNOWN);
        c.due("at(0, -1, 0)", x.at(0, -1, 0), BusThrees.UNKNOWN);
        c.due("at(0, 10, 0)", x.at(0, 10, 0), BusThrees.UNKNOWN);
        c.due("at(0, 10, 6): UNKNOWN first", x.at(0, 10, 6), BusThrees.UNKNOWN);
        c.due("at(0, 0, -1)", x.at(0, 0, -1), BusThrees.OUTSIDE);
        c.due("at(0, 0, 6)", x.at(0, 0, 6), BusThrees.OUTSIDE);
        c.due("at(0, 4, 6): refused first", x.at(0, 4, 6), BusThrees.OUTSIDE);
        c.due("at(0, 4, 5)", x.at(0, 4, 5), BusThrees.NONE);
        c.due("at(MAX, MIN, 0)", x.at(Integer.MAX_VALUE, Integer.MIN_VALUE, 0), BusThrees.UNKNOWN);
    }
}
