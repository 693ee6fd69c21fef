/** Promises 22 to 24: boards and best. All numbers are worked out by hand from the document. */
public final class BoardsTest {
    private static final Check c = new Check("BoardsTest");

    private BoardsTest() {
    }

    public static void main(String[] args) {
        promise22Board();
        promise22BoardLies();
        promise22BoardWhichBus();
        promise22BoardOfEight();
        promise22BoardTurned();
        promise22BoardRefusals();
        promise23Best();
        promise23BestStop();
        promise23BestGreatestGap();
        promise23BestStranded();
        promise23BestOfSeveral();
        promise23BestAtNoLastStop();
        promise23BestRefusals();
        promise24Told();
        c.end();
    }

    private static void promise22Board() {
        c.boardsNothing(States.buses(), 1, 0);
        BusThrees x = States.buses(50);
        x.stop(0, 0, 100);
        x.stop(1, 0, 10);
        c.boardsNothing(x, 2, 0);
        c.boardsNothing(x, 2, 49);
        c.boards(x, 2, 50, 110, 0, 0);
        c.boards(x, 2, 150, 10, 0, 0);
        c.boards(x, 2, 159, 1, 0, 0);
        c.boardsNothing(x, 2, 160);
        c.boardsNothing(x, 2, 161);
        c.boards(x, 1, 149, 1, 0, 0);
        c.boardsNothing(x, 1, 150);
        c.boards(x, 9, 150, 10 + 7 * 120, 0, 0);
        c.boardsNothing(x, 9, 20000);
    }

    private static void promise22BoardLies() {
        BusThrees x = States.buses(0);
        x.late(0, 1, 50);
        c.boards(x, 2, 0, 240, 0, 50);
        c.boards(x, 2, 120, 120, 0, 50);
        c.boards(x, 2, 169, 71, 0, 50);
        c.boards(x, 2, 170, 120, 0, 0);
        x.late(0, 1, 850);
        // It leaves STOP 1 at 1020: the BOARD comes to 0 and stays there.
        c.boards(x, 2, 239, 1, 0, 900);
        c.boards(x, 2, 240, 0, 0, 900);
        c.boards(x, 2, 500, 0, 0, 640);
        c.boards(x, 2, 1019, 0, 0, 121);
        c.boards(x, 2, 1020, 120, 0, 0);
    }

    private static void promise22BoardWhichBus() {
        BusThrees x = States.buses(0, 100);
        c.boards(x, 5, 50, 550, 0, 0);
        c.boards(x, 5, 150, 450, 0, 0);
        c.boards(x, 1, 119, 1, 0, 0);
        c.boards(x, 1, 120, 100, 1, 0);
        c.boardsNothing(x, 1, 220);
        // BUS 1 passes BUS 0, which stands at STOP 1 till 520.
        x.set(3, 1);
        x.late(0, 1, 400);
        c.boards(x, 5, 219, 381, 0, 400);
        c.boards(x, 5, 220, 480, 1, 0);
        c.boards(x, 5, 340, 360, 1, 0);
        c.boards(x, 5, 700, 300, 0, 0);
        // Both have left only STOP 0: the least number, though the other would be there sooner.
        BusThrees y = States.buses(0, 100);
        y.set(3, 1);
        y.late(0, 0, 110);
        c.boards(y, 5, 105, 595, 1, 0);
        c.boards(y, 5, 110, 600, 0, 0);
    }

    private static void promise22BoardOfEight() {
        BusThrees x = States.buses(0, 100, 200, 300, 400, 500, 600, 700);
        c.boards(x, 9, 7200, BusThrees.NONE, BusThrees.NONE, Check.NOT_TOLD);
        c.boards(x, 9, 1700, 80, 7, 0);
        c.boards(x, 1, 519, 1, 4, 0);
    }

    private static void promise22BoardTurned() {
        BusThrees x = States.buses(0, 100);
        x.turn(0, 5);
        c.boards(x, 5, 130, 470, 0, 0);
        c.boards(x, 6, 130, 690, 1, 0);
        c.boards(x, 6, 599, 221, 1, 0);
        x.turn(1, 4);
        c.boardsNothing(x, 6, 130);
    }

    private static void promise22BoardRefusals() {
        BusThrees x = States.buses(0);
        int[] noStops = {0, -1, 10, Integer.MIN_VALUE, Integer.MAX_VALUE};
        for (int stop : noStops) {
            c.due("board(" + stop + ", 0, 0)", x.board(stop, 0, 0), BusThrees.UNKNOWN);
            c.due("board(" + stop + ", 0, 2)", x.board(stop, 0, 2), BusThrees.UNKNOWN);
            c.due("board(" + stop + ", -1, 3)", x.board(stop, -1, 3), BusThrees.UNKNOWN);
        }
        c.due("board(1, -1, 0)", x.board(1, -1, 0), BusThrees.OUTSIDE);
        c.due("board(1, 20001, 0)", x.board(1, 20001, 0), BusThrees.OUTSIDE);
        c.due("board(1, 20001, 2)", x.board(1, 20001, 2), BusThrees.OUTSIDE);
        c.due("board(1, 0, -1)", x.board(1, 0, -1), BusThrees.OUTSIDE);
        c.due("board(1, 0, 3)", x.board(1, 0, 3), BusThrees.OUTSIDE);
        c.boards(x, 1, 0, 120, 0, 0);
        c.boardsNothing(x, 1, 20000);
    }

    /** BUSES at 100 and two more; one each 10 seconds at a STOP for the next; only riding takes time. */
    private static BusThrees pair(int secondOfTheNext, int secondOfTheLast, int peopleAt) {
        BusThrees x = States.buses(100, secondOfTheNext, secondOfTheLast);
        States.onlyRidingTakesTime(x);
        x.stop(peopleAt, 1, 10);
        x.stop(peopleAt, 2, 1);
        return x;
    }

    private static void promise23Best() {
        // The 60 who come at STOP 1 between BUS 0 and BUS 2 wait least if BUS 1 halves the gap.
        BusThrees x = pair(101, 700, 1);
        c.bests(x, 0, 300);
        c.due("there is no RULE", x.told(3), 0);
        c.visit(x, 1, 0, 101, 101);
        // The present RULE does not matter, and stays.
        c.rule(x, "0c999;1g100");
        c.bests(x, 0, 300);
        c.due("the RULE stays", x.told(3), 2);
        c.visit(x, 0, 0, 100, 10090);
        // What is changed between two calls counts.
        x.late(1, 0, 299);
        c.bests(x, 0, 0);
        x.mend();
        c.bests(x, 0, 300);
    }

    private static void promise23BestStop() {
        // One who got on BUS 1 at STOP 0 for STOP 1 would be held there: STOP 1 is better.
        BusThrees x = pair(110, 700, 5);
        x.stop(0, 1, 10);
        x.stop(0, 2, 1);
        c.bests(x, 1, 300);
        x.stop(0, 1, 0);
        c.bests(x, 0, 300);
    }

    private static void promise23BestGreatestGap() {
        // Half of 1200 is the greatest gap there is; half of 1900 would be more.
        c.bests(pair(101, 1300, 1), 0, 600);
        c.bests(pair(101, 2000, 1), 0, 600);
    }

    private static void promise23BestStranded() {
        // Who comes to STOP 1 at 600 for STOP 3 waits 520 for BUS 2, or 0 for BUS 1 if that waits 480 at
        // STOP 0; but that is TURNED at STOP 2: he rides on no further, and costs 1000 more.
        BusThrees x = States.buses(0, 0, 1000);
        States.onlyRidingTakesTime(x);
        x.turn(1, 2);
        x.stop(1, 1, 600);
        x.stop(1, 2, 2);
        x.stop(2, 0, 480);
        c.bests(x, 0, 0);
        x.stop(2, 0, 481);
        c.bests(x, 0, 480);
    }

    private static void promise23BestOfSeveral() {
        c.bests(States.buses(5), 0, 0);
        c.bests(States.buses(5, 5, 5), 0, 0);
    }

    /** No waiting at all would be best; but a LINE of STOP 9, which would be just that, is none of those. */
    private static void promise23BestAtNoLastStop() {
        // At each STOP the first takes who is there, and meanwhile the other passes it: at odd STOPS BUS 0,
        // 5 seconds before BUS 1 leaves, at even ones BUS 1, 57 or more before. Waiting costs least at odd ones.
        BusThrees x = States.buses(900, 905);
        x.set(3, 1);
        x.set(0, 60);
        for (int stop = 0; stop < 9; stop++) {
            x.stop(stop, 1, 900);
            x.stop(stop, 2, 9);
        }
        c.visit(x, 0, 1, 1082, 1082);
        c.visit(x, 1, 1, 1025, 1087);
        c.bests(x, 1, 0);
    }

    private static void promise23BestRefusals() {
        BusThrees x = new BusThrees();
        c.due("best(-1)", x.best(-1), BusThrees.OUTSIDE);
        c.due("best(2)", x.best(2), BusThrees.OUTSIDE);
        c.bests(x, BusThrees.STATE, BusThrees.STATE);
        x.bus(0, 1);
        c.due("best(2)", x.best(2), BusThrees.OUTSIDE);
        c.bests(x, 0, 0);
    }

    private static void promise24Told() {
        BusThrees x = new BusThrees();
        c.due("told(-1)", x.told(-1), BusThrees.OUTSIDE);
        c.due("told(9)", x.told(9), BusThrees.OUTSIDE);
        c.due("told(MIN)", x.told(Integer.MIN_VALUE), BusThrees.OUTSIDE);
        c.due("told(MAX)", x.told(Integer.MAX_VALUE), BusThrees.OUTSIDE);
        x.bus(1, 1);
        x.bus(2, 1);
        x.late(0, 0, 1);
        c.rule(x, "0c1;1c1;2c1");
        c.say(x, "0c1;5");
        x.set(0, 11);
        x.set(1, 3);
        x.set(2, 4);
        x.set(3, 1);
        x.set(4, 77);
        int[] told = {2, 1, 5, 3, 11, 3, 4, 1, 77};
        for (int what = 0; what < told.length; what++) {
            c.due("told(" + what + ")", x.told(what), told[what]);
        }
    }
}
