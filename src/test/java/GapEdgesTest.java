/** Promises 14 to 21 and part 3 of the Terms at their edges: a method for each sentence that names one. */
public final class GapEdgesTest {
    private static final Check c = new Check("GapEdgesTest");

    private GapEdgesTest() {
    }

    public static void main(String[] args) {
        followHowMany();
        followFromTheFirstOn();
        followAtStopsNoneToEight();
        followOfThoseThatGoOn();
        followOfLikeOnesByNumber();
        oneIsTwoOrLess();
        oneAtTheFirstStopOfAll();
        oneAtTheLastStopThatCounts();
        oneIsTheFirstSuchOfThatStop();
        oneOfNoneAndOfOneBus();
        oneWhatNoneToOne();
        beganOfNoLatenesses();
        beganOfTen();
        beganEachAlone();
        beganIfThereIsNoOne();
        spreadOfFewerThanTwo();
        spreadOfTwoAndOfEight();
        waitedOfNobody();
        waitedOfThoseWhoGotOn();
        waitedLongest();
        waitedWhatNoneToTwo();
        meanOfNone();
        meanInLowestTerms();
        meanRefusedWithLost();
        halfOfNone();
        halfInLowestTerms();
        allOfNone();
        allWhatNoneToTwo();
        rodeTillTheirBusCame();
        strandedRodeAsWell();
        heldOneToNineHundred();
        heldWhereItDoesNotCome();
        heldAtStopsNoneToEight();
        heldMayBeLess();
        heldBesideTenLatenesses();
        c.end();
    }

    // ---- promise 14

    /** "how many (k = 0)": one fewer than go on, and none of none. */
    private static void followHowMany() {
        BusThrees x = new BusThrees();
        c.due("follow(0, 0) of no BUSES", x.follow(0, 0), 0);
        for (int n = 1; n <= 8; n++) {
            x.bus(100 * n, 1);
            for (int stop = 0; stop < 9; stop++) {
                c.due("follow(" + stop + ", 0) of " + n, x.follow(stop, 0), n - 1);
            }
        }
    }

    /** "the k-th (1 on); NONE". */
    private static void followFromTheFirstOn() {
        BusThrees x = new BusThrees();
        for (int k = -1; k < 3; k++) {
            c.due("follow of no BUSES", x.follow(0, k), k == 0 ? 0 : BusThrees.NONE);
        }
        x.bus(0, 1);
        for (int k = -1; k < 3; k++) {
            c.due("follow of one BUS", x.follow(0, k), k == 0 ? 0 : BusThrees.NONE);
        }
        int second = 0;
        for (int n = 1; n < 8; n++) {
            second += 10 * n;
            x.bus(second, 1);
            c.due("follow(4, " + n + "), the last", x.follow(4, n), 10 * n);
            c.due("follow(4, 1), the first", x.follow(4, 1), 10);
            c.due("follow(4, " + (n + 1) + ")", x.follow(4, n + 1), BusThrees.NONE);
        }
        c.due("follow(4, -1)", x.follow(4, -1), BusThrees.NONE);
        c.due("follow(4, MIN)", x.follow(4, Integer.MIN_VALUE), BusThrees.NONE);
        c.due("follow(4, MAX)", x.follow(4, Integer.MAX_VALUE), BusThrees.NONE);
    }

    /** "By STOPS 0 to 8"; "UNKNOWN: 0 to 8". */
    private static void followAtStopsNoneToEight() {
        BusThrees x = States.buses(0, 50);
        x.late(1, 0, 1);
        x.late(1, 8, 2);
        c.due("follow(-1, 1)", x.follow(-1, 1), BusThrees.UNKNOWN);
        c.due("follow(0, 1)", x.follow(0, 1), 51);
        c.due("follow(8, 1)", x.follow(8, 1), 53);
        c.due("follow(9, 1)", x.follow(9, 1), BusThrees.UNKNOWN);
    }

    /** "of BUSES that go on from there": one that is TURNED there does not. */
    private static void followOfThoseThatGoOn() {
        for (int turned = 1; turned < 9; turned++) {
            BusThrees x = States.buses(0, 100, 250);
            x.turn(1, turned);
            for (int stop = 0; stop < 9; stop++) {
                boolean goesOn = stop < turned;
                c.due("follow(" + stop + ", 0)", x.follow(stop, 0), goesOn ? 2 : 1);
                c.due("follow(" + stop + ", 1)", x.follow(stop, 1), goesOn ? 100 : 250);
                c.due("follow(" + stop + ", 2)", x.follow(stop, 2), goesOn ? 150 : BusThrees.NONE);
            }
        }
    }

    /** "in the order in which they leave, of like ones by number": the one that follows is the greater. */
    private static void followOfLikeOnesByNumber() {
        BusThrees x = States.buses(0, 100);
        x.set(3, 1);
        int[] late = {99, 100, 101};
        int[] follows = {1, 0, 1};
        int[] which = {1, 1, 0};
        for (int i = 0; i < 3; i++) {
            x.late(0, 4, late[i]);
            c.due("follow(4, 1)", x.follow(4, 1), follows[i]);
            c.ones(x, 4, which[i]);
            x.mend();
        }
    }

    // ---- promise 15

    /** "some FOLLOW is TWO (0 to 600; 30 at first) or less". */
    private static void oneIsTwoOrLess() {
        int[] twos = {0, 1, 30, 599, 600};
        for (int two : twos) {
            BusThrees in = States.buses(0, two);
            in.set(4, two);
            c.ones(in, 0, 1);
            BusThrees out = States.buses(0, two + 1);
            out.set(4, two);
            c.ones(out, BusThrees.NONE, BusThrees.NONE);
        }
    }

    /** "the first STOP": 0, also if they are nearer behind it. */
    private static void oneAtTheFirstStopOfAll() {
        BusThrees x = States.buses(0, 30);
        x.late(0, 3, 30);
        c.ones(x, 0, 1);
        BusThrees y = States.buses(0, 31);
        y.late(0, 3, 31);
        c.ones(y, 3, 1);
    }

    /** "(0 to 8)": those that come together only at STOP 9 are not ONE. */
    private static void oneAtTheLastStopThatCounts() {
        BusThrees x = States.buses(0, 100);
        x.late(0, 8, 69);
        c.ones(x, BusThrees.NONE, BusThrees.NONE);
        x.late(0, 8, 1);
        c.ones(x, 8, 1);
        // He of 100 goes by BUS 0 to STOP 9, where it is in the way of BUS 1: they leave STOPS 0 to 8 thirty apart.
        BusThrees y = new BusThrees();
        y.bus(100, 80);
        y.bus(190, 80);
        y.stop(0, 1, 100);
        y.stop(0, 2, 9);
        y.set(0, 60);
        y.set(1, 0);
        y.set(2, 10);
        c.visit(y, 0, 0, 100, 160, 1);
        c.visit(y, 1, 0, 190, 190, 0);
        c.visit(y, 0, 9, 1240, 1310, 0, 1);
        c.visit(y, 1, 9, 1310, 1310);
        y.set(4, 29);
        c.ones(y, BusThrees.NONE, BusThrees.NONE);
        y.set(4, 30);
        c.ones(y, 0, 1);
    }

    /** "the first such of that STOP: which BUS follows". */
    private static void oneIsTheFirstSuchOfThatStop() {
        c.ones(States.buses(0, 100, 120, 125, 125), 0, 2);
        c.ones(States.buses(0, 100, 200, 300, 400, 500, 600, 630), 0, 7);
        c.ones(States.buses(0, 30, 31, 31), 0, 1);
    }

    /** "ONE: the STOP (what = 0; NONE), the BUS (1; NONE)". */
    private static void oneOfNoneAndOfOneBus() {
        BusThrees x = States.buses();
        x.set(4, 600);
        c.ones(x, BusThrees.NONE, BusThrees.NONE);
        x.bus(0, 1);
        c.ones(x, BusThrees.NONE, BusThrees.NONE);
        x.bus(0, 1);
        c.ones(x, 0, 1);
        x.turn(1, 1);
        c.ones(x, 0, 1);
        x.late(0, 0, 1);
        x.set(4, 0);
        // BUS 1 comes as BUS 0 leaves, so that both leave at 1.
        c.ones(x, 0, 1);
    }

    /** "OUTSIDE." of one. */
    private static void oneWhatNoneToOne() {
        BusThrees x = States.buses(0, 0);
        c.due("one(-1)", x.one(-1), BusThrees.OUTSIDE);
        c.due("one(2)", x.one(2), BusThrees.OUTSIDE);
        c.due("one(2) of no BUSES", States.buses().one(2), BusThrees.OUTSIDE);
    }

    // ---- promise 16

    private static void beganOfNoLatenesses() {
        c.due("began() of no BUSES", States.buses().began(), 0);
        c.due("began() of ONE and no LATENESSES", States.buses(0, 10).began(), 0);
    }

    /** "as bits": 0 to 9. */
    private static void beganOfTen() {
        // Each of ten takes 10 of 130: all must be for 30 to be left.
        BusThrees x = States.buses(0, 130);
        for (int n = 0; n < 10; n++) {
            c.due("began() of " + n, x.began(), 0);
            x.late(0, n % 9, 10);
        }
        // The last one is at STOP 0: at STOP 8 all ten are together.
        c.ones(x, 8, 1);
        c.due("began() of ten", x.began(), 1023);
        x.mend();
        c.ones(x, BusThrees.NONE, BusThrees.NONE);
        c.due("began() of nine", x.began(), 0);
        x.late(0, 0, 9);
        c.due("began() of nine and a lesser one", x.began(), 0);
        x.mend();
        x.late(0, 0, 11);
        c.due("began() of nine and a greater one", x.began(), 512 + 511);
        x.mend();
        x.late(0, 0, 20);
        // 110 in all: of the nine each may be missing.
        c.due("began() of nine and one of 20", x.began(), 512);
        for (int bit = 0; bit < 10; bit++) {
            BusThrees y = States.buses(0, 200);
            for (int n = 0; n < 10; n++) {
                y.late(n == bit ? 0 : 1, 0, n == bit ? 200 : 1);
            }
            c.due("began() of the one with bit " + bit, y.began(), 1 << bit);
        }
    }

    /** "without which (each alone) there is no ONE". */
    private static void beganEachAlone() {
        BusThrees x = States.buses(0, 200, 400);
        x.late(0, 1, 170);
        c.due("began()", x.began(), 1);
        x.late(1, 5, 370);
        // Without the first BUS 1 is late all the same, without the second BUS 0 is: neither alone.
        c.due("began() of two for two", x.began(), 0);
        x.mend();
        c.due("began()", x.began(), 1);
    }

    /** "(0: there is no ONE, too)". */
    private static void beganIfThereIsNoOne() {
        BusThrees x = States.buses(0, 200);
        x.late(0, 1, 169);
        c.due("began() where 31 are left", x.began(), 0);
        x.set(4, 31);
        c.due("began() by TWO 31", x.began(), 1);
    }

    // ---- promise 17

    /** "NONE: fewer than two go on." */
    private static void spreadOfFewerThanTwo() {
        for (int stop = 0; stop < 9; stop++) {
            c.due("spread of no BUSES", States.buses().spread(stop), BusThrees.NONE);
            c.due("spread of one", States.buses(5).spread(stop), BusThrees.NONE);
            c.due("spread of two", States.buses(5, 90).spread(stop), 0);
        }
        BusThrees x = States.buses(0, 100);
        x.turn(1, 5);
        c.due("spread(4)", x.spread(4), 0);
        c.due("spread(5)", x.spread(5), BusThrees.NONE);
        x.turn(0, 5);
        c.due("spread(5) of none", x.spread(5), BusThrees.NONE);
        c.due("spread(9)", x.spread(9), BusThrees.UNKNOWN);
        c.due("spread(-1)", x.spread(-1), BusThrees.UNKNOWN);
    }

    /** "the greatest FOLLOW less the least one", wherever they stand. */
    private static void spreadOfTwoAndOfEight() {
        c.due("greatest first, least last", States.buses(0, 90, 100, 101).spread(0), 89);
        c.due("least first, greatest last", States.buses(0, 1, 11, 101).spread(8), 89);
        c.due("greatest between", States.buses(0, 10, 100, 110).spread(4), 80);
        c.due("least between", States.buses(0, 50, 60, 110).spread(4), 40);
        c.due("all alike", States.buses(0, 10, 20, 30, 40, 50, 60, 70).spread(3), 0);
        c.due("the last of eight", States.buses(0, 10, 20, 30, 40, 50, 60, 7200).spread(3), 7130);
        c.due("all at once", States.buses(7, 7, 7, 7, 7, 7, 7, 7).spread(8), 0);
    }

    // ---- promise 18

    private static void waitedOfNobody() {
        for (int stop = 0; stop < 9; stop++) {
            c.waits(States.buses(), stop, 0, 0, 0);
            c.waits(States.buses(7200), stop, 0, 0, 0);
            BusThrees noBuses = States.buses();
            noBuses.stop(stop, 1, 10);
            c.waits(noBuses, stop, 0, 0, 0);
        }
        // A BUS one second too soon: it comes to STOP 7 at 840.
        BusThrees tooSoon = States.buses(0);
        c.due("GAP 841", tooSoon.stop(7, 1, 841), 0);
        c.waits(tooSoon, 7, 0, 0, 0);
        c.due("GAP 840", tooSoon.stop(7, 1, 840), 841);
        c.waits(tooSoon, 7, 1, 0, 0);
    }

    /** "of all who got on there": not of those who are left. */
    private static void waitedOfThoseWhoGotOn() {
        BusThrees x = new BusThrees();
        x.bus(100, 1);
        x.stop(0, 1, 10);
        c.waits(x, 0, 1, 90, 90);
        c.due("left waiting", x.at(0, 0, 5), 9);
        x.turn(0, 1);
        x.stop(1, 1, 10);
        c.waits(x, 1, 0, 0, 0);
    }

    /** "the longest": also of one who came as the BUS came, and of a later BUS. */
    private static void waitedLongest() {
        BusThrees x = new BusThrees();
        x.bus(10, 80);
        x.stop(0, 1, 10);
        c.waits(x, 0, 1, 0, 0);
        BusThrees y = new BusThrees();
        y.bus(11, 80);
        y.stop(0, 1, 10);
        c.waits(y, 0, 1, 1, 1);
        y.bus(50, 80);
        // Those of 20, 30, 40, 50.
        c.waits(y, 0, 5, 1 + 60, 30);
        // The next would come at 61, but the one ahead stands till 66: he of 60 waits 6.
        y.bus(61, 80);
        c.waits(y, 0, 6, 1 + 60 + 6, 30);
        BusThrees last = new BusThrees();
        last.bus(0, 80);
        last.stop(8, 1, 480);
        c.waits(last, 8, 2, 480, 480);
    }

    /** "how many (what = 0), seconds (1), the longest (2). UNKNOWN: 0 to 8; OUTSIDE." */
    private static void waitedWhatNoneToTwo() {
        BusThrees x = States.buses(100);
        x.stop(0, 1, 30);
        c.waits(x, 0, 3, 70 + 40 + 10, 70);
        c.due("waited(0, -1)", x.waited(0, -1), BusThrees.OUTSIDE);
        c.due("waited(0, 3)", x.waited(0, 3), BusThrees.OUTSIDE);
        c.due("waited(-1, 3)", x.waited(-1, 3), BusThrees.UNKNOWN);
        c.due("waited(9, 0)", x.waited(9, 0), BusThrees.UNKNOWN);
    }

    // ---- promise 19

    /** "(0 by 1 for none)": nobody got on, or nobody waited. */
    private static void meanOfNone() {
        for (int stop = 0; stop < 9; stop++) {
            c.means(States.buses(), stop, 0, 0, 1);
            c.means(States.buses(7200), stop, 0, 0, 1);
        }
        BusThrees x = new BusThrees();
        x.stop(0, 1, 900);
        x.bus(900, 80);
        x.bus(1800, 80);
        x.bus(2700, 80);
        c.due("three got on", x.waited(0, 0), 3);
        c.means(x, 0, 0, 0, 1);
    }

    /** "in lowest terms". */
    private static void meanInLowestTerms() {
        // Each 10 seconds one: at 10 n and m seconds they waited 10 (0 + ... + n - 1) and n m.
        long[][] secondsAndMean = {{11, 1, 1}, {20, 5, 1}, {21, 6, 1}, {30, 10, 1}, {40, 15, 1}, {47, 22, 1}};
        for (long[] s : secondsAndMean) {
            BusThrees x = States.buses((int) s[0]);
            x.stop(0, 1, 10);
            c.means(x, 0, 0, s[1], s[2]);
        }
        // With 11 seconds: 0 and 11 is 11 by 2; 0, 11, 22, 33 is 66 by 4.
        BusThrees two = States.buses(22);
        two.stop(0, 1, 11);
        c.means(two, 0, 0, 11, 2);
        BusThrees four = States.buses(44);
        four.stop(0, 1, 11);
        c.means(four, 0, 0, 33, 2);
        // 1 and 1 of two BUSES and 0: 1 by 3 twice, 2 by 3.
        BusThrees three = States.buses(11, 21, 30);
        three.set(0, 0);
        three.set(1, 0);
        three.stop(0, 1, 10);
        c.means(three, 0, 0, 2, 3);
    }

    /** "refused with LOST and the refusal"; "UNKNOWN, OUTSIDE (LOST less 1, 2)". */
    private static void meanRefusedWithLost() {
        BusThrees x = States.buses(0, 100);
        for (int part = 0; part < 2; part++) {
            for (int what = 0; what < 2; what++) {
                c.due("mean(9, ..)", x.mean(9, what, part), -1000000000000000001L);
                c.due("mean(-1, ..)", x.mean(-1, what, part), -1000000000000000001L);
                c.due("mean(0, ..)", x.mean(0, what, part), part == 1 ? 1 : what == 1 ? 50 : 0);
                c.due("mean(8, ..)", x.mean(8, what, part), part == 1 ? 1 : what == 1 ? 50 : 0);
            }
            c.due("mean(0, 2, part)", x.mean(0, 2, part), -1000000000000000002L);
            c.due("mean(0, -1, part)", x.mean(0, -1, part), -1000000000000000002L);
            c.due("mean(0, part, 2)", x.mean(0, part, 2), -1000000000000000002L);
            c.due("mean(0, part, -1)", x.mean(0, part, -1), -1000000000000000002L);
        }
    }

    /** HALF of no FOLLOWS, and of FOLLOWS that are 0. */
    private static void halfOfNone() {
        for (int stop = 0; stop < 9; stop++) {
            c.means(States.buses(), stop, 1, 0, 1);
            c.means(States.buses(100), stop, 1, 0, 1);
            c.means(States.buses(100, 100), stop, 1, 0, 1);
            c.means(States.buses(9, 9, 9, 9, 9, 9, 9, 9), stop, 1, 0, 1);
        }
        BusThrees x = States.buses(0, 100);
        x.turn(1, 4);
        c.means(x, 3, 1, 50, 1);
        c.means(x, 4, 1, 0, 1);
    }

    /** "HALF: the sum of FOLLOWS by how many, by 2." */
    private static void halfInLowestTerms() {
        c.means(States.buses(0, 1), 0, 1, 1, 2);
        c.means(States.buses(0, 2), 0, 1, 1, 1);
        c.means(States.buses(0, 0, 1), 0, 1, 1, 4);
        c.means(States.buses(0, 1, 2), 0, 1, 1, 2);
        c.means(States.buses(0, 0, 0, 0, 0, 0, 0, 1), 8, 1, 1, 14);
        c.means(States.buses(0, 0, 0, 0, 0, 0, 0, 7200), 8, 1, 3600, 7);
        c.means(States.buses(0, 0, 0, 0, 0, 0, 0, 7), 8, 1, 1, 2);
    }

    // ---- promise 20

    private static void allOfNone() {
        c.alls(States.buses(), 0, 0, 0);
        c.alls(States.buses(7200), 0, 0, 0);
        BusThrees noBuses = States.buses();
        noBuses.stop(0, 1, 10);
        c.alls(noBuses, 0, 0, 0);
        BusThrees turned = States.buses(0, 0, 0, 0, 0, 0, 0, 0);
        turned.turn(7, 1);
        c.alls(turned, 0, 0, 0);
    }

    private static void allWhatNoneToTwo() {
        for (BusThrees x : new BusThrees[] {States.buses(), States.buses(5)}) {
            c.due("all(-1)", x.all(-1), BusThrees.OUTSIDE);
            c.due("all(0)", x.all(0), 0);
            c.due("all(2)", x.all(2), 0);
            c.due("all(3)", x.all(3), BusThrees.OUTSIDE);
        }
    }

    /** "rode (from getting on to when their BUS came where they got off". */
    private static void rodeTillTheirBusCame() {
        // One, for the next STOP: he rides while it stands where he got on, not while it stands where he gets off.
        BusThrees x = States.buses(10);
        x.stop(0, 1, 10);
        x.stop(0, 2, 1);
        c.alls(x, 0, 130, 0);
        x.late(0, 0, 7);
        c.alls(x, 0, 137, 0);
        x.late(0, 1, 100);
        c.alls(x, 0, 137, 0);
        // Behind another that stands there it comes later, and he rides longer.
        BusThrees y = new BusThrees();
        y.bus(0, 1);
        y.bus(10, 1);
        y.stop(0, 1, 10);
        y.stop(0, 2, 1);
        y.late(0, 1, 100);
        c.alls(y, 0, 210, 0);
        BusThrees last = States.buses(0);
        last.stop(8, 1, 900);
        last.stop(8, 2, 9);
        c.alls(last, 60, 130, 0);
    }

    /** "STRANDED ones as well": they rode till they were put out, and are counted. */
    private static void strandedRodeAsWell() {
        for (int turned = 1; turned < 9; turned++) {
            BusThrees x = States.buses(20);
            x.stop(0, 1, 10);
            x.stop(0, 2, 9);
            x.turn(0, turned);
            c.alls(x, 10, 2 * (12 + 120 * turned), 2);
        }
        BusThrees on = States.buses(20);
        on.stop(0, 1, 10);
        on.stop(0, 2, 9);
        c.alls(on, 10, 2 * (12 + 1080), 0);
    }

    // ---- promise 21

    /** "so many seconds (1 to 900) longer". */
    private static void heldOneToNineHundred() {
        BusThrees x = States.buses(10);
        x.stop(0, 1, 10);
        c.due("held(0, 0, 0)", x.held(0, 0, 0), Check.NOT_TOLD);
        c.due("held(0, 0, 1)", x.held(0, 0, 1), 1);
        c.due("held(0, 0, 900)", x.held(0, 0, 900), 900);
        c.due("held(0, 0, 901)", x.held(0, 0, 901), Check.NOT_TOLD);
        c.due("held(0, 0, -1)", x.held(0, 0, -1), Check.NOT_TOLD);
        c.due("held(1, 0, 1)", x.held(1, 0, 1), Check.NOT_TOLD);
        c.due("held(-1, 0, 1)", x.held(-1, 0, 1), Check.NOT_TOLD);
        c.due("held(0, 0, 1) of no BUSES", States.buses().held(0, 0, 1), Check.NOT_TOLD);
    }

    /** "UNKNOWN (also the BUS does not come there)". */
    private static void heldWhereItDoesNotCome() {
        for (int turned = 1; turned < 9; turned++) {
            BusThrees x = States.buses(0, 7200);
            x.turn(0, turned);
            for (int stop = 0; stop < 9; stop++) {
                c.due("held(0, " + stop + ", 1)", x.held(0, stop, 1), stop <= turned ? 0 : Check.NOT_TOLD);
                c.due("held(1, " + stop + ", 1)", x.held(1, stop, 1), 0);
            }
        }
    }

    /** Held as a LATENESS would: at STOPS 0 to 8. */
    private static void heldAtStopsNoneToEight() {
        BusThrees x = States.buses(10);
        x.stop(0, 1, 10);
        x.stop(0, 2, 9);
        c.due("held(0, -1, 5)", x.held(0, -1, 5), Check.NOT_TOLD);
        for (int stop = 0; stop < 9; stop++) {
            c.due("held(0, " + stop + ", 5)", x.held(0, stop, 5), 5);
        }
        c.due("held(0, 9, 5)", x.held(0, 9, 5), Check.NOT_TOLD);
        c.due("held(0, 10, 5)", x.held(0, 10, 5), Check.NOT_TOLD);
    }

    /** "by how much what all waited and rode becomes more": less than 0 if it becomes less, -1 to -6 too. */
    private static void heldMayBeLess() {
        BusThrees x = eachTwoHundredAtStopOne(0, 1000);
        // To STOP 1 at 120 and 1120: those of 200, 400, ... 1000 wait 920, 720, 520, 320, 120 and ride 120 each.
        c.due("all(0)", x.all(0), 2600);
        // BUS 0 at 200: he of 200 waits 0. At 201: 1. Each rides 120 all the same.
        c.due("held(0, 0, 79)", x.held(0, 0, 79), 0);
        c.due("held(0, 0, 80)", x.held(0, 0, 80), -920);
        c.due("held(0, 0, 81)", x.held(0, 0, 81), -919);
        // To STOP 1 at 199 and at 201, 202, ...: he of 200 waits 1, 2, ... for BUS 1, and not at all for BUS 0 at 200.
        for (int less = 1; less <= 7; less++) {
            BusThrees y = eachTwoHundredAtStopOne(79, 80 + less);
            c.due("held(0, 0, 1) that makes it " + less + " less", y.held(0, 0, 1), -less);
        }
    }

    /** Two BUSES; one each 200 seconds at STOP 1 for the next; only riding takes time. */
    private static BusThrees eachTwoHundredAtStopOne(int second, int secondOfTheNext) {
        BusThrees x = States.buses(second, secondOfTheNext);
        States.onlyRidingTakesTime(x);
        x.stop(1, 1, 200);
        x.stop(1, 2, 1);
        return x;
    }

    /** Held beside all LATENESSES: it is none of the ten. */
    private static void heldBesideTenLatenesses() {
        BusThrees x = States.buses(10);
        x.stop(0, 1, 10);
        for (int n = 0; n < 10; n++) {
            x.late(0, 0, 900);
        }
        c.due("all(1)", x.all(1), 10 + 360 + 9000);
        c.due("held(0, 0, 900)", x.held(0, 0, 900), 900);
        c.due("told(1)", x.told(1), 10);
        c.due("all(1)", x.all(1), 10 + 360 + 9000);
        c.due("an eleventh", x.late(0, 0, 1), BusThrees.FULL);
    }
}
