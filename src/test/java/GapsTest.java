/** Promises 14 to 21: gaps and waits. All numbers are worked out by hand from the document. */
public final class GapsTest {
    private static final Check c = new Check("GapsTest");

    private GapsTest() {
    }

    public static void main(String[] args) {
        promise14Follow();
        promise14FollowInOrderOfLeaving();
        promise15One();
        promise15OneInOrderOfLeaving();
        promise16Began();
        promise16BeganByTheRule();
        promise17Spread();
        promise18Waited();
        promise19Mean();
        promise19Half();
        promise20All();
        promise20AllStranded();
        promise21Held();
        promise21HeldWhereTheLineEnds();
        promise21HeldRefusals();
        c.end();
    }

    private static void follows(BusThrees x, int stop, int... want) {
        c.due("follow(" + stop + ", 0)", x.follow(stop, 0), want.length);
        for (int k = 1; k <= want.length; k++) {
            c.due("follow(" + stop + ", " + k + ")", x.follow(stop, k), want[k - 1]);
        }
        c.due("follow behind the last", x.follow(stop, want.length + 1), BusThrees.NONE);
    }

    private static void promise14Follow() {
        BusThrees x = States.buses(0, 100, 250);
        for (int stop = 0; stop < 9; stop++) {
            follows(x, stop, 100, 150);
        }
        c.due("follow(9, 0)", x.follow(9, 0), BusThrees.UNKNOWN);
        c.due("follow(-1, 0)", x.follow(-1, 0), BusThrees.UNKNOWN);
        c.due("follow(0, -1)", x.follow(0, -1), BusThrees.NONE);
        c.due("follow(0, MIN)", x.follow(0, Integer.MIN_VALUE), BusThrees.NONE);
        c.due("follow(0, MAX)", x.follow(0, Integer.MAX_VALUE), BusThrees.NONE);
        x.turn(1, 4);
        follows(x, 3, 100, 150);
        follows(x, 4, 250);
        follows(x, 8, 250);
        x.turn(0, 8);
        follows(x, 7, 250);
        follows(x, 8);
        follows(States.buses(0, 1, 3, 6, 10, 15, 21, 28), 8, 1, 2, 3, 4, 5, 6, 7);
        follows(States.buses(), 0);
        follows(States.buses(5), 0);
    }

    private static void promise14FollowInOrderOfLeaving() {
        BusThrees x = States.buses(0, 100, 250);
        x.set(3, 1);
        x.late(0, 2, 200);
        // Leaving STOP 2: BUS 1 at 340, BUS 0 at 440, BUS 2 at 490.
        follows(x, 1, 100, 150);
        follows(x, 2, 100, 50);
        x.late(0, 2, 100);
        follows(x, 3, 150, 50);
        // Those who get on count: leaving, not coming. BUS 1 takes ten at STOP 0 in 28 seconds.
        BusThrees y = States.buses(9, 100);
        y.stop(0, 1, 10);
        follows(y, 0, 119);
    }

    private static void promise15One() {
        BusThrees x = States.buses(0, 100, 131);
        c.ones(x, BusThrees.NONE, BusThrees.NONE);
        x.set(4, 31);
        c.ones(x, 0, 2);
        x.set(4, 99);
        c.ones(x, 0, 2);
        x.set(4, 100);
        c.ones(x, 0, 1);
        x.set(4, 0);
        c.ones(x, BusThrees.NONE, BusThrees.NONE);
        x.late(0, 7, 70);
        x.set(4, 29);
        c.ones(x, BusThrees.NONE, BusThrees.NONE);
        x.set(4, 30);
        c.ones(x, 7, 1);
        x.late(1, 5, 2);
        c.ones(x, 5, 2);
        c.due("one(-1)", x.one(-1), BusThrees.OUTSIDE);
        c.due("one(2)", x.one(2), BusThrees.OUTSIDE);
        c.ones(States.buses(), BusThrees.NONE, BusThrees.NONE);
        c.ones(States.buses(3), BusThrees.NONE, BusThrees.NONE);
        BusThrees last = States.buses(0, 100);
        last.late(0, 8, 70);
        c.ones(last, 8, 1);
        last.turn(0, 8);
        c.ones(last, BusThrees.NONE, BusThrees.NONE);
        BusThrees like = States.buses(5, 5);
        like.set(4, 0);
        c.ones(like, 0, 1);
    }

    private static void promise15OneInOrderOfLeaving() {
        BusThrees x = States.buses(0, 100);
        x.set(3, 1);
        x.late(0, 2, 110);
        c.ones(x, 2, 0);
        x.mend();
        x.late(0, 2, 100);
        c.ones(x, 2, 1);
        // Leaving STOP 2: BUS 2 at 460, BUS 1 at 470, BUS 0 at 480: the first such is BUS 1.
        BusThrees y = States.buses(0, 100, 220);
        y.set(3, 1);
        y.late(0, 2, 240);
        y.late(1, 2, 130);
        c.ones(y, 2, 1);
    }

    private static void promise16Began() {
        c.due("began() without BUSES", States.buses().began(), 0);
        BusThrees x = States.buses(0, 200);
        c.due("began() without LATENESSES", x.began(), 0);
        x.late(0, 1, 100);
        c.due("began() without ONE", x.began(), 0);
        x.late(0, 2, 80);
        c.due("began() of two that both must be", x.began(), 3);
        x.late(1, 3, 500);
        c.due("began() with one that does nothing", x.began(), 3);
        c.due("LATENESSES stay", x.told(1), 3);
        c.ones(x, 2, 1);
        BusThrees each = States.buses(0, 200);
        each.late(0, 0, 190);
        each.late(0, 1, 180);
        c.due("began() where each is enough", each.began(), 0);
        BusThrees close = States.buses(0, 20);
        close.late(0, 0, 10);
        c.due("began() where none is needed", close.began(), 0);
        BusThrees tenth = States.buses(0, 200);
        for (int i = 0; i < 9; i++) {
            tenth.late(1, 8, 1);
        }
        tenth.late(0, 0, 180);
        c.due("began() of the tenth", tenth.began(), 512);
        BusThrees two = States.buses(0, 200);
        two.late(0, 0, 50);
        two.set(4, 150);
        c.due("began() by TWO", two.began(), 1);
        two.set(4, 149);
        c.due("began() by TWO", two.began(), 0);
        two.set(4, 200);
        c.due("began() by TWO", two.began(), 0);
    }

    private static void promise16BeganByTheRule() {
        BusThrees x = States.buses(0, 20);
        c.rule(x, "0g100");
        c.due("began()", x.began(), 0);
        x.late(0, 1, 80);
        c.ones(x, 1, 1);
        c.due("began() by the RULE", x.began(), 1);
        x.free();
        c.due("began() without it", x.began(), 0);
    }

    private static void promise17Spread() {
        BusThrees x = States.buses(0, 100, 250, 600);
        c.due("spread(0)", x.spread(0), 250);
        x.turn(3, 5);
        c.due("spread(4)", x.spread(4), 250);
        c.due("spread(5)", x.spread(5), 50);
        x.turn(0, 6);
        c.due("spread(6) of two", x.spread(6), 0);
        x.turn(1, 7);
        c.due("spread(7) of one", x.spread(7), BusThrees.NONE);
        x.turn(2, 8);
        c.due("spread(8) of none", x.spread(8), BusThrees.NONE);
        c.due("spread(9)", x.spread(9), BusThrees.UNKNOWN);
        c.due("spread(-1)", x.spread(-1), BusThrees.UNKNOWN);
        BusThrees y = States.buses(0, 300, 310, 500);
        c.due("spread(8)", y.spread(8), 290);
    }

    /** Two BUSES of two seats at 100, one each 20 seconds at STOP 0. */
    private static BusThrees crowd() {
        BusThrees x = new BusThrees();
        x.bus(100, 2);
        x.bus(100, 2);
        x.stop(0, 1, 20);
        return x;
    }

    private static void promise18Waited() {
        BusThrees x = crowd();
        c.waits(x, 0, 4, 80 + 60 + 52 + 32, 80);
        c.waits(x, 1, 0, 0, 0);
        x.set(3, 1);
        c.waits(x, 0, 4, 80 + 60 + 40 + 20, 80);
        x.bus(500, 80);
        // The third takes the 5th to the 25th: 400, 380, ..., 0.
        c.waits(x, 0, 25, 200 + 4200, 400);
        x.turn(2, 1);
        c.waits(x, 0, 25, 200 + 4200, 400);
        x.stop(8, 1, 900);
        // BUS 0 comes to STOP 8 at 100 + 12 + 10 + 8 * 120 = 1082; the next is nobody's yet.
        c.waits(x, 8, 1, 182, 182);
        x.stop(8, 1, 0);
        c.waits(x, 8, 0, 0, 0);
        x.stop(0, 1, 90);
        // At 100 who came at 90, at 500 who came at 180, 270, 360, 450.
        c.waits(x, 0, 5, 10 + 320 + 230 + 140 + 50, 320);
        c.due("waited(9, 0)", x.waited(9, 0), BusThrees.UNKNOWN);
        c.due("waited(-1, 0)", x.waited(-1, 0), BusThrees.UNKNOWN);
        c.due("waited(9, 3): UNKNOWN first", x.waited(9, 3), BusThrees.UNKNOWN);
        c.due("waited(0, 3)", x.waited(0, 3), BusThrees.OUTSIDE);
        c.due("waited(0, -1)", x.waited(0, -1), BusThrees.OUTSIDE);
    }

    private static void promise19Mean() {
        BusThrees x = crowd();
        c.means(x, 0, 0, 56, 1);
        c.means(x, 1, 0, 0, 1);
        // Seats for one: at 100 who waited 80, and at 110 who waited 70.
        BusThrees y = new BusThrees();
        y.bus(100, 1);
        y.bus(100, 1);
        y.stop(0, 1, 20);
        c.means(y, 0, 0, 75, 1);
        y.bus(100, 1);
        // And at 120 who waited 60, at 130 who waited 50: 260 by 4.
        y.bus(100, 1);
        c.means(y, 0, 0, 65, 1);
        y.set(0, 9);
        // 80, 71, 62, 53: 266 by 4.
        c.means(y, 0, 0, 133, 2);
        BusThrees nobodyWaits = new BusThrees();
        nobodyWaits.bus(20, 1);
        nobodyWaits.stop(0, 1, 20);
        c.means(nobodyWaits, 0, 0, 0, 1);
        BusThrees oneWaits = new BusThrees();
        oneWaits.bus(27, 1);
        oneWaits.stop(0, 1, 20);
        c.means(oneWaits, 0, 0, 7, 1);
        c.due("mean(9, 0, 0)", x.mean(9, 0, 0), BusThrees.LOST - 1);
        c.due("mean(-1, 5, 5)", x.mean(-1, 5, 5), BusThrees.LOST - 1);
        c.due("mean(0, 2, 0)", x.mean(0, 2, 0), BusThrees.LOST - 2);
        c.due("mean(0, -1, 0)", x.mean(0, -1, 0), BusThrees.LOST - 2);
        c.due("mean(0, 0, 2)", x.mean(0, 0, 2), BusThrees.LOST - 2);
        c.due("mean(0, 1, -1)", x.mean(0, 1, -1), BusThrees.LOST - 2);
    }

    private static void promise19Half() {
        c.means(States.buses(), 0, 1, 0, 1);
        c.means(States.buses(7), 0, 1, 0, 1);
        c.means(States.buses(7, 7), 0, 1, 0, 1);
        c.means(States.buses(0, 100), 0, 1, 50, 1);
        c.means(States.buses(0, 101), 0, 1, 101, 2);
        c.means(States.buses(0, 100, 250), 8, 1, 125, 2);
        c.means(States.buses(0, 100, 251), 8, 1, 251, 4);
        BusThrees x = States.buses(0, 100, 250);
        x.turn(2, 3);
        c.means(x, 2, 1, 125, 2);
        c.means(x, 3, 1, 50, 1);
        x.turn(1, 3);
        c.means(x, 3, 1, 0, 1);
    }

    private static void promise20All() {
        c.alls(States.buses(), 0, 0, 0);
        // Three of STOP 0 ride to 1, two of STOP 2 to 5; see promise21Held.
        BusThrees x = new BusThrees();
        x.bus(30, 80);
        x.stop(0, 1, 10);
        x.stop(0, 2, 1);
        x.stop(2, 1, 100);
        c.alls(x, 30 + 290, 3 * 134 + 2 * 372, 0);
        c.due("all(-1)", x.all(-1), BusThrees.OUTSIDE);
        c.due("all(3)", x.all(3), BusThrees.OUTSIDE);
        BusThrees y = crowd();
        // TRIP 3: from 100 and 112 each 360 and 12 of standing; BUS 1 is not in the way.
        c.alls(y, 224, 4 * 372, 0);
    }

    private static void promise20AllStranded() {
        BusThrees x = new BusThrees();
        x.bus(30, 5);
        x.stop(0, 1, 10);
        x.stop(0, 2, 5);
        x.stop(1, 1, 100);
        x.stop(1, 2, 1);
        x.turn(0, 2);
        c.alls(x, 30 + 64, 3 * 264 + 130, 3);
        x.turn(0, 1);
        c.alls(x, 30, 3 * 134, 3);
        x.turn(0, 5);
        c.due("their STOP: not STRANDED", x.all(2), 0);
        x.turn(0, 4);
        c.due("STRANDED one STOP short", x.all(2), 3);
    }

    private static void promise21Held() {
        BusThrees x = new BusThrees();
        x.bus(30, 80);
        x.stop(0, 1, 10);
        x.stop(0, 2, 1);
        c.due("held(0, 0, 60): three ride on", x.held(0, 0, 60), 180);
        c.due("held(0, 1, 60): nobody is in it", x.held(0, 1, 60), 0);
        x.stop(2, 1, 100);
        // Two waited 290 and rode 744; then three 465 and 1122.
        c.due("held(0, 1, 60)", x.held(0, 1, 60), 553);
        c.due("held(0, 2, 60)", x.held(0, 2, 60), 120);
        c.due("held(0, 8, 900)", x.held(0, 8, 900), 0);
        c.due("nothing is changed", x.told(1), 0);
        c.alls(x, 320, 3 * 134 + 2 * 372, 0);
        for (int i = 0; i < 10; i++) {
            x.late(0, 8, 1);
        }
        c.due("held(0, 2, 60) beside ten LATENESSES", x.held(0, 2, 60), 120);
        c.rule(x, "0c5");
        // It stands till 44 and waits till 80: 36 seconds of holding are free.
        c.due("held(0, 0, 36)", x.held(0, 0, 36), 0);
        x.stop(2, 1, 0);
        c.due("held(0, 0, 37)", x.held(0, 0, 37), 3);
        x.turn(0, 1);
        c.due("held(0, 1, 60) where it is TURNED", x.held(0, 1, 60), 0);
        c.due("held(0, 2, 60) where it does not come", x.held(0, 2, 60), Check.NOT_TOLD);
    }

    private static void promise21HeldWhereTheLineEnds() {
        // BUS 0 has nobody and leaves STOP 8 at 960; BUS 1 has three for STOP 9 and comes to STOP 8 at 1004.
        BusThrees x = States.buses(0, 30);
        x.stop(0, 1, 10);
        x.stop(0, 2, 9);
        c.visit(x, 1, 9, 1124, 1135);
        c.due("held(0, 8, 60): three come 16 later", x.held(0, 8, 60), 3 * 16);
        c.due("held(0, 9, 60): as a LATENESS there", x.held(0, 9, 60), Check.NOT_TOLD);
        c.due("late(0, 9, 60)", x.late(0, 9, 60), BusThrees.UNKNOWN);
        c.due("held(1, 9, 60)", x.held(1, 9, 60), Check.NOT_TOLD);
        x.set(3, 1);
        c.due("held(0, 8, 60) with PASSING", x.held(0, 8, 60), 0);
        c.due("held(0, 9, 60) with PASSING", x.held(0, 9, 60), Check.NOT_TOLD);
        x.set(3, 0);
        x.turn(0, 8);
        c.due("held(0, 8, 60) where it is TURNED", x.held(0, 8, 60), 3 * 16);
        c.due("held(0, 9, 60) behind where it is TURNED", x.held(0, 9, 60), Check.NOT_TOLD);
    }

    private static void promise21HeldRefusals() {
        c.due("held without BUSES", States.buses().held(0, 0, 1), Check.NOT_TOLD);
        BusThrees x = States.buses(30);
        int[][] refused = {{-1, 0, 1}, {1, 0, 1}, {0, -1, 1}, {0, 9, 1}, {0, 10, 1}, {0, 0, 0}, {0, 0, 901},
            {0, 0, -1}, {Integer.MAX_VALUE, 0, 1}, {0, Integer.MIN_VALUE, 1}, {0, 0, Integer.MIN_VALUE}};
        for (int[] r : refused) {
            c.due("held(" + r[0] + ", " + r[1] + ", " + r[2] + ")", x.held(r[0], r[1], r[2]), Check.NOT_TOLD);
        }
        c.due("held(0, 0, 1)", x.held(0, 0, 1), 0);
        c.due("held(0, 0, 900)", x.held(0, 0, 900), 0);
    }
}
