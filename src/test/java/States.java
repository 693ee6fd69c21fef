/** Objects on which calls are tried: a new one, one with some of all, and a full one. */
final class States {
    private States() {
    }

    /** BUSES of 80 SEATS that come to STOP 0 at these seconds. */
    static BusThrees buses(int... seconds) {
        BusThrees x = new BusThrees();
        for (int second : seconds) {
            x.bus(second, 80);
        }
        return x;
    }

    /** DOOR, ON and OFF become 0. */
    static void onlyRidingTakesTime(BusThrees x) {
        for (int which = 0; which < 3; which++) {
            x.set(which, 0);
        }
    }

    /** Nothing is in it. */
    static void empty(BusThrees x) {
    }

    /** Three BUSES, two LATENESSES, a RULE, signs of which more must come. */
    static void some(BusThrees x) {
        x.bus(100, 30);
        x.bus(160, 5);
        x.bus(700, 12);
        for (int stop = 0; stop < 9; stop++) {
            x.stop(stop, 0, 60 + 20 * stop);
            x.stop(stop, 1, stop == 4 ? 0 : 25 + 10 * stop);
            x.stop(stop, 2, 1 + stop % 4);
        }
        x.set(0, 9);
        x.set(4, 45);
        x.late(0, 2, 90);
        x.late(2, 5, 40);
        x.turn(1, 6);
        say(x, "2g30;5c80");
        x.rule();
        say(x, "4c");
    }

    /** 8 BUSES, 10 LATENESSES, a RULE of 10 LINES, 40 signs that are another RULE. */
    static void full(BusThrees x) {
        for (int n = 0; n < 8; n++) {
            x.bus(n < 7 ? 40 * n : 7200, 4 + n);
        }
        for (int stop = 0; stop < 9; stop++) {
            x.stop(stop, 1, 30 + stop);
            x.stop(stop, 2, 9 - stop);
        }
        x.set(3, 1);
        for (int n = 0; n < 10; n++) {
            x.late(n % 8, n % 9, 10 + n);
        }
        x.turn(3, 8);
        x.turn(6, 1);
        say(x, "0c1;1g9;2c9;3g9;4c9;5g9;6c9;7g9;8c9;9g9");
        x.rule();
        say(x, "0c001;1g002;2c103;3g204;4c115;5g306;6c99");
    }

    /** Has all worked out, so that it can be seen whether that answers for what is so behind a change. */
    static void ask(BusThrees x) {
        x.best(1);
        x.all(1);
        x.at(0, 5, 1);
        x.fault();
        x.began();
        x.held(0, 1, 50);
        x.board(5, 400, 0);
        x.one(0);
        x.mean(3, 1, 0);
    }

    static void say(BusThrees x, String text) {
        for (int i = 0; i < text.length(); i++) {
            x.say(text.charAt(i));
        }
    }
}
