/** Promises 22 to 24 and part 4 of the Terms at their edges: a method for each sentence that names one. */
public final class BoardEdgesTest {
    private static final Check c = new Check("BoardEdgesTest");

    private BoardEdgesTest() {
    }

    public static void main(String[] args) {
        boardOfNoBuses();
        boardAtStopsOneToNine();
        boardSecondsNoneToTwentyThousand();
        boardWhatNoneToTwo();
        boardOfBusesThatHaveNotCome();
        boardOfBusesThatCome();
        boardOfThoseThatHaveLeftOne();
        boardOfTheOneThatHasLeftMost();
        boardOfLikeOnesTheLeastNumber();
        boardRidesFromWhereItLeftLast();
        boardNoneAtLeast();
        boardLies();
        boardNothingToldIsNoNumber();
        bestOfNoBuses();
        bestWhatNoneToOne();
        bestOfSeveralTheLeastStopThenGap();
        bestStopsNoneToEight();
        bestGapsNoneToSixHundred();
        bestStrandedCostAThousand();
        bestBesideARuleAndLatenesses();
        toldOfAnEmptyObject();
        toldOfAFullObject();
        toldWhatNoneToEight();
        c.end();
    }

    // ---- promise 22

    private static void boardOfNoBuses() {
        for (int stop = 1; stop < 10; stop++) {
            c.boardsNothing(States.buses(), stop, 0);
            c.boardsNothing(States.buses(), stop, 20000);
        }
    }

    /** "UNKNOWN: STOPS 1 to 9". */
    private static void boardAtStopsOneToNine() {
        BusThrees x = States.buses(0);
        c.due("board(-1, 0, 0)", x.board(-1, 0, 0), BusThrees.UNKNOWN);
        c.due("board(0, 0, 0)", x.board(0, 0, 0), BusThrees.UNKNOWN);
        for (int stop = 1; stop < 10; stop++) {
            c.boards(x, stop, 0, 120 * stop, 0, 0);
        }
        c.due("board(10, 0, 0)", x.board(10, 0, 0), BusThrees.UNKNOWN);
        c.due("board(0, -1, 3)", x.board(0, -1, 3), BusThrees.UNKNOWN);
        c.due("board(0, 0, 2)", x.board(0, 0, 2), BusThrees.UNKNOWN);
    }

    /** "OUTSIDE: seconds 0 to 20000". */
    private static void boardSecondsNoneToTwentyThousand() {
        // It leaves STOP 0 at 7200 + 9990 and comes to STOP 9 at 17190 + 9 * 900.
        BusThrees x = States.buses(7200);
        for (int stop = 0; stop < 9; stop++) {
            x.stop(stop, 0, 900);
        }
        c.rule(x, "0c999");
        c.due("board(9, 20001, 0)", x.board(9, 20001, 0), BusThrees.OUTSIDE);
        c.boards(x, 9, 20000, 25290 - 20000, 0, 0);
        c.boards(x, 9, 19999, 25290 - 19999, 0, 0);
        c.due("board(9, -1, 0)", x.board(9, -1, 0), BusThrees.OUTSIDE);
        c.due("board(9, -1, 2)", x.board(9, -1, 2), BusThrees.OUTSIDE);
        c.boardsNothing(x, 9, 0);
        c.boards(States.buses(0), 9, 0, 1080, 0, 0);
    }

    /** "the seconds (what = 0), the BUS (1), by how much it LIES (2)"; OUTSIDE. */
    private static void boardWhatNoneToTwo() {
        for (BusThrees x : new BusThrees[] {States.buses(), States.buses(0)}) {
            c.due("board(1, 0, -1)", x.board(1, 0, -1), BusThrees.OUTSIDE);
            c.due("board(1, 0, 3)", x.board(1, 0, 3), BusThrees.OUTSIDE);
            c.due("board(9, 20000, 3)", x.board(9, 20000, 3), BusThrees.OUTSIDE);
        }
    }

    /** "of BUSES that have not come there": a second before it comes, as it comes, while it stands there. */
    private static void boardOfBusesThatHaveNotCome() {
        for (int stop = 1; stop < 10; stop++) {
            BusThrees x = States.buses(7);
            if (stop < 9) {
                x.late(0, stop, 50);
            }
            int comes = 7 + 120 * stop;
            c.boards(x, stop, comes - 1, 1, 0, 0);
            c.boardsNothing(x, stop, comes);
            c.boardsNothing(x, stop, comes + 1);
            c.boardsNothing(x, stop, comes + 49);
            c.boardsNothing(x, stop, comes + 50);
        }
    }

    /** "(and come)": not those that are TURNED before. */
    private static void boardOfBusesThatCome() {
        BusThrees x = States.buses(0, 60);
        for (int turned = 1; turned < 9; turned++) {
            x.turn(0, turned);
            c.boards(x, turned, 60, 120 * turned - 60, 0, 0);
            c.boards(x, turned + 1, 60, 120 * turned + 120, 1, 0);
            x.turn(1, turned);
            c.boardsNothing(x, turned + 1, 60);
            x.turn(1, 9);
        }
    }

    /** "(of those that have left one": a second before it leaves STOP 0, and as it leaves. */
    private static void boardOfThoseThatHaveLeftOne() {
        BusThrees x = States.buses(50);
        c.boardsNothing(x, 4, 0);
        c.boardsNothing(x, 4, 49);
        c.boards(x, 4, 50, 480, 0, 0);
        x.late(0, 0, 30);
        c.boardsNothing(x, 4, 50);
        c.boardsNothing(x, 4, 79);
        c.boards(x, 4, 80, 480, 0, 0);
        c.boards(x, 1, 80, 120, 0, 0);
    }

    /** "the one that has left most STOPS by then". */
    private static void boardOfTheOneThatHasLeftMost() {
        BusThrees x = States.buses(0, 100);
        x.set(3, 1);
        x.late(0, 1, 300);
        // BUS 0 stands at STOP 1 from 120 till 420, BUS 1 leaves it at 220: from then on it has left more.
        c.boards(x, 3, 219, 360 - 219, 0, 300);
        c.boards(x, 3, 220, 240, 1, 0);
        c.boards(x, 3, 459, 1, 1, 0);
        c.boards(x, 3, 460, 660 - 460, 0, 0);
        c.boards(x, 3, 659, 1, 0, 0);
        c.boardsNothing(x, 3, 660);
        BusThrees eight = States.buses(0, 120, 240, 360, 480, 600, 720, 840);
        c.boards(eight, 9, 960, 120, 0, 0);
        c.boards(eight, 9, 1080, 120, 1, 0);
        c.boards(eight, 9, 1919, 1, 7, 0);
        c.boardsNothing(eight, 9, 1920);
    }

    /** "of like ones the least number": also if another would be there sooner. */
    private static void boardOfLikeOnesTheLeastNumber() {
        BusThrees x = States.buses(0, 10, 20);
        x.set(3, 1);
        x.late(0, 2, 100);
        x.late(1, 2, 50);
        // They leave STOP 2 at 340, 300, 260.
        c.boards(x, 6, 259, 720 - 259, 0, 100);
        c.boards(x, 6, 260, 480, 2, 0);
        c.boards(x, 6, 299, 441, 2, 0);
        c.boards(x, 6, 300, 480, 1, 0);
        c.boards(x, 6, 339, 441, 1, 0);
        c.boards(x, 6, 340, 480, 0, 0);
    }

    /** "RIDING from where it left last, when it left, without standing". */
    private static void boardRidesFromWhereItLeftLast() {
        BusThrees x = States.buses(0);
        int there = 0;
        for (int stop = 0; stop < 9; stop++) {
            x.stop(stop, 0, 100 + stop);
            there += 100 + stop;
        }
        c.boards(x, 9, 0, there, 0, 0);
        x.late(0, 3, 40);
        x.late(0, 5, 2);
        // It comes to STOP 3 at 303 and leaves it at 343; to 4 at 446, to 5 at 550, and leaves that at 552.
        c.boards(x, 9, 342, there - 342, 0, 42);
        c.boards(x, 9, 343, there + 40 - 343, 0, 2);
        c.boards(x, 9, 551, there + 40 - 551, 0, 2);
        c.boards(x, 9, 552, there + 42 - 552, 0, 0);
    }

    /** "0 at least". */
    private static void boardNoneAtLeast() {
        BusThrees x = States.buses(0);
        x.late(0, 1, 200);
        // To STOP 2 it would come at 240; it leaves STOP 1 at 320.
        c.boards(x, 2, 239, 1, 0, 200);
        c.boards(x, 2, 240, 0, 0, 200);
        c.boards(x, 2, 241, 0, 0, 199);
        c.boards(x, 2, 319, 0, 0, 121);
        c.boards(x, 2, 320, 120, 0, 0);
    }

    /** "LIES: the true seconds till it comes, less these." */
    private static void boardLies() {
        // BUS 0 stands at STOP 2 from 240 till 640; BUS 1 comes there as that leaves.
        BusThrees x = States.buses(0, 100);
        x.late(0, 2, 400);
        c.boards(x, 2, 240, 100, 1, 300);
        c.boards(x, 2, 340, 0, 1, 300);
        c.boards(x, 2, 639, 0, 1, 1);
        c.boardsNothing(x, 2, 640);
        x.set(3, 1);
        c.boards(x, 2, 240, 100, 1, 0);
        c.boardsNothing(x, 2, 340);
    }

    /** "NONE: nothing is told (-2000000000 for 2)": a LIE of 0 is another answer. */
    private static void boardNothingToldIsNoNumber() {
        BusThrees x = States.buses(10);
        c.due("board(1, 9, 0)", x.board(1, 9, 0), -6);
        c.due("board(1, 9, 1)", x.board(1, 9, 1), -6);
        c.due("board(1, 9, 2)", x.board(1, 9, 2), -2000000000);
        c.due("board(1, 10, 0)", x.board(1, 10, 0), 120);
        c.due("board(1, 10, 1)", x.board(1, 10, 1), 0);
        c.due("board(1, 10, 2)", x.board(1, 10, 2), 0);
    }

    // ---- promise 23

    /** "STATE: no BUSES". */
    private static void bestOfNoBuses() {
        BusThrees x = States.buses();
        c.bests(x, BusThrees.STATE, BusThrees.STATE);
        x.stop(0, 1, 10);
        c.bests(x, BusThrees.STATE, BusThrees.STATE);
        x.bus(0, 1);
        c.bests(x, 0, 0);
    }

    /** "OUTSIDE; STATE": OUTSIDE is the first. */
    private static void bestWhatNoneToOne() {
        for (BusThrees x : new BusThrees[] {States.buses(), States.buses(5)}) {
            c.due("best(-1)", x.best(-1), BusThrees.OUTSIDE);
            c.due("best(2)", x.best(2), BusThrees.OUTSIDE);
        }
    }

    /** "of several the least STOP, then gap". */
    private static void bestOfSeveralTheLeastStopThenGap() {
        c.bests(States.buses(7200), 0, 0);
        c.bests(States.buses(0, 0, 0, 0, 0, 0, 0, 0), 0, 0);
        // BUS 1 is 600 behind: at STOP 0 no gap is a waiting, all are alike.
        BusThrees x = States.buses(0, 600);
        x.stop(0, 1, 100);
        c.bests(x, 0, 0);
    }

    /** "of all STOPS 0 to 8": the last of them, where it is the only one at which nobody has to wait. */
    private static void bestStopsNoneToEight() {
        // Both come at 800 and each takes one to STOP 9. At STOPS 0 to 7 the one that came first stands 200
        // (at 0: 100), the other passes it; so a LINE there, also with gap 0, holds the other 100.
        // At STOP 8 none is in the way.
        BusThrees x = new BusThrees();
        States.onlyRidingTakesTime(x);
        x.set(3, 1);
        x.bus(800, 1);
        x.bus(800, 1);
        x.stop(0, 1, 400);
        x.stop(0, 2, 9);
        for (int stop = 0; stop < 8; stop++) {
            x.late(stop % 2, stop, stop == 0 ? 100 : 200);
        }
        c.visit(x, 0, 0, 800, 900, 1);
        c.visit(x, 1, 0, 800, 800, 1);
        c.visit(x, 1, 7, 800 + 7 * 120 + 600, 800 + 7 * 120 + 800);
        c.visit(x, 0, 7, 800 + 7 * 120 + 700, 800 + 7 * 120 + 700);
        c.bests(x, 8, 0);
        // With one at STOP 8 too each LINE costs 100: the least STOP. One at STOP 9 would cost nothing, but is none
        // of those.
        x.late(0, 8, 200);
        c.bests(x, 0, 0);
        x.mend();
        c.bests(x, 8, 0);
        // Without the LATENESS of STOP 7 that is a STOP where none is in the way, and the least one.
        x.mend();
        c.bests(x, 7, 0);
    }

    /** One each 10 seconds at STOP 1 for the next; BUS 1 comes close behind BUS 0; only riding takes time. */
    private static BusThrees halves(int secondOfTheLast) {
        BusThrees x = States.buses(100, 101, secondOfTheLast);
        States.onlyRidingTakesTime(x);
        x.stop(1, 1, 10);
        x.stop(1, 2, 1);
        return x;
    }

    /** "and gaps 0, 60, 120, ..., 600": half the gap is best, as near as there is one, the least of like ones. */
    private static void bestGapsNoneToSixHundred() {
        for (int half = 60; half <= 600; half += 60) {
            c.bests(halves(100 + 2 * half), 0, half);
        }
        c.bests(halves(100 + 1320), 0, 600);
        c.bests(halves(7200), 0, 600);
        c.bests(halves(101), 0, 0);
    }

    /** "1000 more for each STRANDED one". */
    private static void bestStrandedCostAThousand() {
        // As promise23BestStranded of BoardsTest: 520 less waiting and a RIDE less, for one STRANDED.
        for (int ride = 479; ride <= 482; ride++) {
            BusThrees x = States.buses(0, 0, 1000);
            States.onlyRidingTakesTime(x);
            x.turn(1, 2);
            x.stop(1, 1, 600);
            x.stop(1, 2, 2);
            x.stop(2, 0, ride);
            c.bests(x, 0, ride <= 480 ? 0 : 480);
        }
    }

    /** "that one LINE (g) as the whole RULE": the present one does not count, and stays; LATENESSES count. */
    private static void bestBesideARuleAndLatenesses() {
        BusThrees x = halves(700);
        c.rule(x, "0c1;1c1;2c1;3c1;4c1;5c1;6c1;7c1;8c1;9c1");
        States.say(x, "0c");
        c.bests(x, 0, 300);
        c.due("told(3)", x.told(3), 10);
        c.due("told(2)", x.told(2), 2);
        c.due("fault()", x.fault(), 2);
        c.visit(x, 0, 0, 100, 110);
        for (int n = 0; n < 10; n++) {
            x.late(1, 0, n == 0 ? 290 : 1);
        }
        // It leaves STOP 0 at 401 by itself.
        c.bests(x, 0, 0);
        x.mend();
        c.due("told(1)", x.told(1), 9);
    }

    // ---- promise 24

    private static void tolds(BusThrees x, int... want) {
        for (int what = 0; what < want.length; what++) {
            c.due("told(" + what + ")", x.told(what), want[what]);
        }
    }

    private static void toldOfAnEmptyObject() {
        tolds(new BusThrees(), 0, 0, 0, 0, 8, 2, 1, 0, 30);
    }

    private static void toldOfAFullObject() {
        BusThrees x = new BusThrees();
        States.full(x);
        tolds(x, 8, 10, 40, 10, 8, 2, 1, 1, 30);
        int[] most = {60, 10, 10, 1, 600};
        for (int which = 0; which < 5; which++) {
            x.set(which, most[which]);
        }
        tolds(x, 8, 10, 40, 10, 60, 10, 10, 1, 600);
        for (int which = 0; which < 5; which++) {
            x.set(which, 0);
        }
        tolds(x, 8, 10, 40, 10, 0, 0, 0, 0, 0);
    }

    /** "OUTSIDE." of told. */
    private static void toldWhatNoneToEight() {
        BusThrees x = new BusThrees();
        c.due("told(-1)", x.told(-1), BusThrees.OUTSIDE);
        c.due("told(0)", x.told(0), 0);
        c.due("told(8)", x.told(8), 30);
        c.due("told(9)", x.told(9), BusThrees.OUTSIDE);
    }
}
