import java.util.Arrays;

/**
 * A line of STOPS, the people who come there and the BUSES that bunch on it.
 * Only what was set is kept; every other answer is worked out from that by a Course.
 */
public final class BusThrees {
    public static final int NONE = -6, UNKNOWN = -1, OUTSIDE = -2, STATE = -3, FULL = -4, NO = -5;
    public static final long LOST = -1000000000000000000L;

    private static final int STOPS = 10;
    private static final int LAST_STOP = 9;
    private static final int MOST_BUSES = 8;
    private static final int MOST_LATENESSES = 10;
    private static final int MOST_SIGNS = 40;
    private static final int CELLS = 80;

    private static final int DOOR = 0, ON = 1, OFF = 2, PASS = 3, TWO = 4;
    private static final int SETTINGS = 5;
    private static final int[] MOST_OF_SETTING = {60, 10, 10, 1, 600};

    private static final int LONGEST_STAND = 900;
    private static final int LATEST_SECOND = 7200;
    private static final int LATEST_BOARD = 20000;
    private static final int MOST_SEATS = 80;

    private static final int BEST_STEP = 60;
    private static final int BEST_MOST = 600;
    private static final int STRANDED_COST = 1000;

    /** The answer where -1 to -6 could be true differences. */
    private static final int NOT_TOLD = -2000000000;

    private final Line line = new Line();
    private final Signs signs = new Signs();
    private final Course course = new Course();
    private final Course trial = new Course();
    private Rule rule = new Rule();
    private Rule spare = new Rule();
    private boolean courseKnown;
    private boolean bestKnown;
    private int bestStop;
    private int bestGap;

    public BusThrees() {
    }

    // ---- 1 the line

    public int stop(int stop, int what, int v) {
        if (!isGoingStop(stop)) {
            return UNKNOWN;
        }
        if (!Line.allowsAtStop(what, v)) {
            return OUTSIDE;
        }
        forgetCourse();
        return line.changeStop(stop, what, v);
    }

    public int bus(int second, int seats) {
        if (second < line.earliestNewBus() || second > LATEST_SECOND) {
            return OUTSIDE;
        }
        if (seats < 1 || seats > MOST_SEATS) {
            return OUTSIDE;
        }
        if (line.buses >= MOST_BUSES) {
            return FULL;
        }
        forgetCourse();
        return line.addBus(second, seats);
    }

    public int set(int which, int v) {
        if (which < 0 || which >= SETTINGS || v < 0 || v > MOST_OF_SETTING[which]) {
            return OUTSIDE;
        }
        forgetCourse();
        int was = line.settings[which];
        line.settings[which] = v;
        return was;
    }

    public int late(int bus, int stop, int seconds) {
        if (!line.hasBus(bus) || !isGoingStop(stop)) {
            return UNKNOWN;
        }
        if (seconds < 1 || seconds > LONGEST_STAND) {
            return OUTSIDE;
        }
        if (line.latenesses >= MOST_LATENESSES) {
            return FULL;
        }
        forgetCourse();
        return line.addLateness(bus, stop, seconds);
    }

    public int mend() {
        if (line.latenesses < 1) {
            return NO;
        }
        forgetCourse();
        line.latenesses--;
        return line.latenesses;
    }

    public int turn(int bus, int stop) {
        if (!line.hasBus(bus)) {
            return UNKNOWN;
        }
        if (stop < 1 || stop > LAST_STOP) {
            return OUTSIDE;
        }
        forgetCourse();
        int was = line.end[bus];
        line.end[bus] = stop;
        return was;
    }

    public int at(int bus, int stop, int what) {
        if (!line.hasBus(bus) || !isStop(stop)) {
            return UNKNOWN;
        }
        if (what < 0 || what > 5) {
            return OUTSIDE;
        }
        if (!line.comes(bus, stop)) {
            return NONE;
        }
        return presentCourse().tellVisit(cell(bus, stop), what);
    }

    // ---- 2 rules

    public int say(int sign) {
        if (sign < 33 || sign > 126) {
            return OUTSIDE;
        }
        if (signs.count >= MOST_SIGNS) {
            return FULL;
        }
        return signs.add(sign);
    }

    public int wipe() {
        int were = signs.count;
        signs.count = 0;
        return were;
    }

    public int fault() {
        return signs.readInto(spare);
    }

    public int rule() {
        if (signs.readInto(spare) != NONE) {
            return NO;
        }
        forgetCourse();
        Rule was = rule;
        rule = spare;
        spare = was;
        signs.count = 0;
        return rule.lines;
    }

    public int free() {
        forgetCourse();
        int were = rule.lines;
        rule.clear();
        return were;
    }

    // ---- 3 gaps, waits

    public int follow(int stop, int k) {
        if (!isGoingStop(stop)) {
            return UNKNOWN;
        }
        Course now = presentCourse();
        int follows = now.orderLeaving(line, stop) - 1;
        if (k == 0) {
            return Math.max(follows, 0);
        }
        return k < 0 || k > follows ? NONE : now.gapAhead(stop, k);
    }

    public int one(int what) {
        if (what < 0 || what > 1) {
            return OUTSIDE;
        }
        Course now = presentCourse();
        int stop = now.firstCloseStop(line);
        if (what == 0 || stop == NONE) {
            return stop;
        }
        return now.firstCloseBus(line, stop);
    }

    public int began() {
        if (presentCourse().firstCloseStop(line) == NONE) {
            return 0;
        }
        int bits = 0;
        for (int i = 0; i < line.latenesses; i++) {
            trial.layLatenesses(line, i);
            trial.play(line, rule);
            if (trial.firstCloseStop(line) == NONE) {
                bits |= 1 << i;
            }
        }
        return bits;
    }

    public int spread(int stop) {
        if (!isGoingStop(stop)) {
            return UNKNOWN;
        }
        return presentCourse().spreadOfGaps(line, stop);
    }

    public int waited(int stop, int what) {
        if (!isGoingStop(stop)) {
            return UNKNOWN;
        }
        if (what < 0 || what > 2) {
            return OUTSIDE;
        }
        return presentCourse().tellWaits(stop, what);
    }

    public long mean(int stop, int what, int part) {
        if (!isGoingStop(stop)) {
            return LOST + UNKNOWN;
        }
        if (what < 0 || what > 1 || part < 0 || part > 1) {
            return LOST + OUTSIDE;
        }
        Course now = presentCourse();
        if (what == 0) {
            return partOfFraction(now.waits[stop], now.taken[stop], part);
        }
        int going = now.orderLeaving(line, stop);
        return partOfFraction(now.sumOfGaps(stop, going), 2L * (going - 1), part);
    }

    public int all(int what) {
        if (what < 0 || what > 2) {
            return OUTSIDE;
        }
        Course now = presentCourse();
        switch (what) {
            case 0:
                return (int) now.sumOfWaits();
            case 1:
                return (int) now.rode;
            default:
                return now.stranded;
        }
    }

    public int held(int bus, int stop, int seconds) {
        if (!line.hasBus(bus) || !isGoingStop(stop) || !line.comes(bus, stop)) {
            return NOT_TOLD;
        }
        if (seconds < 1 || seconds > LONGEST_STAND) {
            return NOT_TOLD;
        }
        trial.layLatenesses(line, NONE);
        trial.extra[cell(bus, stop)] += seconds;
        trial.play(line, rule);
        Course now = presentCourse();
        return (int) (trial.sumOfWaits() + trial.rode - now.sumOfWaits() - now.rode);
    }

    // ---- 4 boards, best

    public int board(int stop, int second, int what) {
        if (stop < 1 || stop > LAST_STOP) {
            return UNKNOWN;
        }
        if (second < 0 || second > LATEST_BOARD || what < 0 || what > 2) {
            return OUTSIDE;
        }
        Course now = presentCourse();
        int bus = now.nearestBus(line, stop, second);
        if (bus == NONE) {
            return what == 2 ? NOT_TOLD : NONE;
        }
        if (what == 1) {
            return bus;
        }
        int shown = now.shownSeconds(line, bus, stop, second);
        return what == 0 ? shown : now.come[cell(bus, stop)] - second - shown;
    }

    public int best(int what) {
        if (what < 0 || what > 1) {
            return OUTSIDE;
        }
        if (line.buses < 1) {
            return STATE;
        }
        if (!bestKnown) {
            findBest();
            bestKnown = true;
        }
        return what == 0 ? bestStop : bestGap;
    }

    public int told(int what) {
        switch (what) {
            case 0:
                return line.buses;
            case 1:
                return line.latenesses;
            case 2:
                return signs.count;
            case 3:
                return rule.lines;
            default:
                return what >= 4 && what < 4 + SETTINGS ? line.settings[what - 4] : OUTSIDE;
        }
    }

    // ---- what the calls share

    private static boolean isStop(int stop) {
        return stop >= 0 && stop < STOPS;
    }

    /** Whether it is a STOP from which a BUS can go on. */
    private static boolean isGoingStop(int stop) {
        return stop >= 0 && stop < LAST_STOP;
    }

    private static int cell(int bus, int stop) {
        return bus * STOPS + stop;
    }

    private void forgetCourse() {
        courseKnown = false;
        bestKnown = false;
    }

    private Course presentCourse() {
        if (!courseKnown) {
            course.layLatenesses(line, NONE);
            course.play(line, rule);
            courseKnown = true;
        }
        return course;
    }

    private void findBest() {
        // What spare held is not needed again: each reading of signs fills it anew.
        trial.layLatenesses(line, NONE);
        long least = 0;
        for (int stop = 0; stop < LAST_STOP; stop++) {
            for (int gap = 0; gap <= BEST_MOST; gap += BEST_STEP) {
                spare.keepOnlyGap(stop, gap);
                trial.play(line, spare);
                long cost = trial.sumOfWaits() + trial.rode + (long) STRANDED_COST * trial.stranded;
                boolean isFirst = stop == 0 && gap == 0;
                if (isFirst || cost < least) {
                    least = cost;
                    bestStop = stop;
                    bestGap = gap;
                }
            }
        }
    }

    private static long partOfFraction(long upper, long lower, int part) {
        long divisor = lower > 0 ? commonDivisor(upper, lower) : 0;
        if (divisor <= 0) {
            return part == 0 ? 0 : 1;
        }
        return (part == 0 ? upper : lower) / divisor;
    }

    private static long commonDivisor(long upper, long lower) {
        long a = upper;
        long b = lower;
        // Euclid's way takes fewer than 100 steps for any two longs.
        for (int i = 0; i < 100 && b != 0; i++) {
            long rest = a % b;
            a = b;
            b = rest;
        }
        return a;
    }

    /** What was set: STOPS, BUSES, how they stand, and LATENESSES. */
    private static final class Line {
        final int[] ride = new int[STOPS];
        final int[] gap = new int[STOPS];
        final int[] trip = new int[STOPS];
        final int[] settings = {8, 2, 1, 0, 30};
        final int[] second = new int[MOST_BUSES];
        final int[] seats = new int[MOST_BUSES];
        /** Where each BUS ends; a TURNED one differs from the others in nothing else. */
        final int[] end = new int[MOST_BUSES];
        int buses;
        final int[] lateBus = new int[MOST_LATENESSES];
        final int[] lateStop = new int[MOST_LATENESSES];
        final int[] lateSeconds = new int[MOST_LATENESSES];
        int latenesses;

        Line() {
            Arrays.fill(ride, 120);
            Arrays.fill(trip, 3);
        }

        static boolean allowsAtStop(int what, int v) {
            switch (what) {
                case 0:
                    return v >= 10 && v <= 900;
                case 1:
                    return v == 0 || v >= 10 && v <= 900;
                case 2:
                    return v >= 1 && v <= 9;
                default:
                    return false;
            }
        }

        int changeStop(int stop, int what, int v) {
            int[] row = what == 0 ? ride : what == 1 ? gap : trip;
            int was = row[stop];
            row[stop] = v;
            return was;
        }

        int earliestNewBus() {
            return buses > 0 ? second[buses - 1] : 0;
        }

        int addBus(int comesAt, int withSeats) {
            second[buses] = comesAt;
            seats[buses] = withSeats;
            end[buses] = LAST_STOP;
            buses++;
            return buses - 1;
        }

        int addLateness(int bus, int stop, int seconds) {
            lateBus[latenesses] = bus;
            lateStop[latenesses] = stop;
            lateSeconds[latenesses] = seconds;
            latenesses++;
            return latenesses - 1;
        }

        boolean hasBus(int bus) {
            return bus >= 0 && bus < buses;
        }

        boolean comes(int bus, int stop) {
            return stop <= end[bus];
        }

        boolean goesOn(int bus, int stop) {
            return stop < end[bus];
        }

        /** Where those who come at a STOP want to go. */
        int goal(int stop) {
            return Math.min(stop + trip[stop], LAST_STOP);
        }

        /** How many have come at a STOP by a second. */
        int come(int stop, int bySecond) {
            return gap[stop] > 0 ? bySecond / gap[stop] : 0;
        }
    }

    /** The LINES by which BUSES wait: for each STOP its letter (0: no LINE) and its number. */
    private static final class Rule {
        final int[] letter = new int[STOPS];
        final int[] number = new int[STOPS];
        int lines;

        void clear() {
            Arrays.fill(letter, 0);
            Arrays.fill(number, 0);
            lines = 0;
        }

        void keepOnlyGap(int stop, int seconds) {
            clear();
            letter[stop] = 'g';
            number[stop] = seconds;
            lines = 1;
        }

        /** The soonest leaving from a STOP; ahead: the latest leaving there so far, or NONE. */
        int soonest(int stop, int cameFirst, int ahead) {
            if (letter[stop] == 'c') {
                return cameFirst + 10 * number[stop];
            }
            if (letter[stop] == 'g' && ahead != NONE) {
                return ahead + number[stop];
            }
            return 0;
        }
    }

    /** Signs said so far, and the reader that makes LINES of them. */
    private static final class Signs {
        private static final int WANTS_STOP = -2;
        private static final int WANTS_LETTER = -1;
        private static final int MOST_DIGITS = 3;

        final int[] row = new int[MOST_SIGNS];
        int count;
        /** What the reader stands at: it wants a STOP, a letter, or has had so many digits. */
        private int digits;
        private int stop;

        int add(int sign) {
            row[count] = sign;
            count++;
            return count;
        }

        /** Makes the RULE of the signs and answers THE FAULT or NONE; with a FAULT the RULE is of no use. */
        int readInto(Rule made) {
            made.clear();
            digits = WANTS_STOP;
            stop = 0;
            for (int i = 0; i < count; i++) {
                if (!reads(row[i], made)) {
                    return i;
                }
            }
            return digits < 1 ? count : NONE;
        }

        private boolean reads(int sign, Rule made) {
            if (digits == WANTS_STOP) {
                return readsStop(sign, made);
            }
            if (digits == WANTS_LETTER) {
                return readsLetter(sign, made);
            }
            if (sign == ';') {
                return readsBetween(made);
            }
            return readsDigit(sign, made);
        }

        private boolean readsStop(int sign, Rule made) {
            if (!isDigit(sign) || made.letter[sign - '0'] != 0) {
                return false;
            }
            stop = sign - '0';
            digits = WANTS_LETTER;
            return true;
        }

        private boolean readsLetter(int sign, Rule made) {
            if (sign != 'c' && sign != 'g') {
                return false;
            }
            made.letter[stop] = sign;
            made.lines++;
            digits = 0;
            return true;
        }

        private boolean readsDigit(int sign, Rule made) {
            if (!isDigit(sign) || digits >= MOST_DIGITS) {
                return false;
            }
            made.number[stop] = made.number[stop] * 10 + sign - '0';
            digits++;
            return true;
        }

        private boolean readsBetween(Rule made) {
            if (digits < 1 || made.lines >= STOPS) {
                return false;
            }
            digits = WANTS_STOP;
            return true;
        }

        private static boolean isDigit(int sign) {
            return sign >= '0' && sign <= '9';
        }
    }

    /**
     * All that happens on a line, STOP by STOP; rows over BUS and STOP are told by cell.
     * Cells of a STOP to which a BUS does not come hold what an earlier play left there.
     */
    private static final class Course {
        final int[] come = new int[CELLS];
        final int[] leave = new int[CELLS];
        final int[] on = new int[CELLS];
        final int[] off = new int[CELLS];
        final int[] inside = new int[CELLS];
        final int[] left = new int[CELLS];
        /** How much longer a BUS stands. */
        final int[] extra = new int[CELLS];
        /** Of each STOP: how many got on, what they waited together, and the longest. */
        final int[] taken = new int[STOPS];
        final long[] waits = new long[STOPS];
        final int[] longest = new int[STOPS];
        long rode;
        int stranded;
        /** BUSES in the order in which they come to a STOP or leave it. */
        private final int[] order = new int[MOST_BUSES];
        /** At the STOP in play: the latest leaving of all, and of those that go on. */
        private int latest;
        private int latestGoing;

        void layLatenesses(Line line, int without) {
            Arrays.fill(extra, 0);
            for (int i = 0; i < line.latenesses; i++) {
                if (i != without) {
                    extra[cell(line.lateBus[i], line.lateStop[i])] += line.lateSeconds[i];
                }
            }
        }

        void play(Line line, Rule by) {
            Arrays.fill(taken, 0);
            Arrays.fill(waits, 0);
            Arrays.fill(longest, 0);
            rode = 0;
            stranded = 0;
            for (int stop = 0; stop < STOPS; stop++) {
                playStop(line, by, stop);
            }
        }

        private void playStop(Line line, Rule by, int stop) {
            latest = 0;
            latestGoing = NONE;
            int coming = orderComing(line, stop);
            for (int i = 0; i < coming; i++) {
                visit(line, by, order[i], stop);
            }
        }

        /**
         * Lines up who would come to a STOP and when. This order is by number too if none
         * may PASS: then each leaves the STOP before no sooner than those of lesser number.
         */
        private int orderComing(Line line, int stop) {
            int coming = 0;
            for (int bus = 0; bus < line.buses; bus++) {
                if (line.comes(bus, stop)) {
                    int here = cell(bus, stop);
                    come[here] = stop == 0 ? line.second[bus] : leave[here - 1] + line.ride[stop - 1];
                    putInOrder(come, stop, bus, coming);
                    coming++;
                }
            }
            return coming;
        }

        /** Lines up who goes on from a STOP by when they leave. */
        int orderLeaving(Line line, int stop) {
            int going = 0;
            for (int bus = 0; bus < line.buses; bus++) {
                if (line.goesOn(bus, stop)) {
                    putInOrder(leave, stop, bus, going);
                    going++;
                }
            }
            return going;
        }

        private void putInOrder(int[] times, int stop, int bus, int count) {
            int place = count;
            while (place > 0 && times[cell(order[place - 1], stop)] > times[cell(bus, stop)]) {
                order[place] = order[place - 1];
                place--;
            }
            order[place] = bus;
        }

        private void visit(Line line, Rule by, int bus, int stop) {
            int here = cell(bus, stop);
            if (line.settings[PASS] == 0) {
                come[here] = Math.max(come[here], latest);
            }
            int before = 0;
            if (stop > 0) {
                before = inside[here - 1];
                rode += (long) before * (come[here] - come[here - 1]);
            }
            off[here] = countAtGoal(line, bus, stop);
            if (line.goesOn(bus, stop)) {
                pickUp(line, bus, stop, before - off[here]);
                leave[here] = come[here] + stand(line, here, off[here]);
                waitByRule(by, bus, stop);
            } else {
                stranded += before - off[here];
                emptyOut(line, stop, here);
                leave[here] = come[here] + stand(line, here, before);
            }
            latest = Math.max(latest, leave[here]);
        }

        /** How many of those in a BUS want to get off at a STOP. */
        private int countAtGoal(Line line, int bus, int stop) {
            int count = 0;
            for (int from = 0; from < stop; from++) {
                if (line.goal(from) == stop) {
                    count += on[cell(bus, from)];
                }
            }
            return count;
        }

        private void pickUp(Line line, int bus, int stop, int stayed) {
            int here = cell(bus, stop);
            int waiting = line.come(stop, come[here]) - taken[stop];
            int count = Math.min(line.seats[bus] - stayed, waiting);
            on[here] = count;
            left[here] = waiting - count;
            inside[here] = stayed + count;
            if (count > 0) {
                noteWaits(stop, come[here], count, line.gap[stop]);
                taken[stop] += count;
            }
        }

        /** The next so many of a STOP get on: the n-th of all has come at second n times GAP. */
        private void noteWaits(int stop, int second, int count, int gap) {
            long sumOfNumbers = (long) count * taken[stop] + (long) count * (count + 1) / 2;
            waits[stop] += (long) count * second - gap * sumOfNumbers;
            int firstWaited = second - gap * (taken[stop] + 1);
            if (firstWaited > longest[stop]) {
                longest[stop] = firstWaited;
            }
        }

        private void emptyOut(Line line, int stop, int here) {
            on[here] = 0;
            inside[here] = 0;
            left[here] = line.come(stop, come[here]) - taken[stop];
        }

        private int stand(Line line, int here, int gotOff) {
            if (on[here] == 0 && gotOff == 0) {
                return extra[here];
            }
            int[] settings = line.settings;
            return settings[DOOR] + settings[ON] * on[here] + settings[OFF] * gotOff + extra[here];
        }

        private void waitByRule(Rule by, int bus, int stop) {
            int here = cell(bus, stop);
            int soonest = by.soonest(stop, come[cell(bus, 0)], latestGoing);
            leave[here] = Math.max(leave[here], soonest);
            latestGoing = Math.max(latestGoing, leave[here]);
        }

        int tellVisit(int here, int what) {
            switch (what) {
                case 0:
                    return come[here];
                case 1:
                    return leave[here];
                case 2:
                    return on[here];
                case 3:
                    return off[here];
                case 4:
                    return inside[here];
                default:
                    return left[here];
            }
        }

        int tellWaits(int stop, int what) {
            switch (what) {
                case 0:
                    return taken[stop];
                case 1:
                    return (int) waits[stop];
                default:
                    return longest[stop];
            }
        }

        long sumOfWaits() {
            long sum = 0;
            for (int stop = 0; stop < STOPS; stop++) {
                sum += waits[stop];
            }
            return sum;
        }

        /** FOLLOW of the k-th behind the first, once the leaving of that STOP stands in order. */
        int gapAhead(int stop, int k) {
            return leave[cell(order[k], stop)] - leave[cell(order[k - 1], stop)];
        }

        /** All FOLLOWS together, once the leaving of that STOP stands in order. */
        int sumOfGaps(int stop, int going) {
            int sum = 0;
            for (int k = 1; k < going; k++) {
                sum += gapAhead(stop, k);
            }
            return sum;
        }

        int spreadOfGaps(Line line, int stop) {
            int going = orderLeaving(line, stop);
            if (going < 2) {
                return NONE;
            }
            int greatest = gapAhead(stop, 1);
            int least = greatest;
            for (int k = 2; k < going; k++) {
                int gap = gapAhead(stop, k);
                greatest = Math.max(greatest, gap);
                least = Math.min(least, gap);
            }
            return greatest - least;
        }

        int firstCloseStop(Line line) {
            for (int stop = 0; stop < LAST_STOP; stop++) {
                if (firstCloseBus(line, stop) != NONE) {
                    return stop;
                }
            }
            return NONE;
        }

        int firstCloseBus(Line line, int stop) {
            int going = orderLeaving(line, stop);
            for (int k = 1; k < going; k++) {
                if (gapAhead(stop, k) <= line.settings[TWO]) {
                    return order[k];
                }
            }
            return NONE;
        }

        /** The BUS that a BOARD tells of, or NONE. */
        int nearestBus(Line line, int stop, int second) {
            int nearest = NONE;
            int most = 0;
            for (int bus = 0; bus < line.buses; bus++) {
                if (line.comes(bus, stop) && come[cell(bus, stop)] > second) {
                    int count = stopsLeft(bus, stop, second);
                    if (count > most) {
                        most = count;
                        nearest = bus;
                    }
                }
            }
            return nearest;
        }

        /** How many STOPS ahead of this one a BUS has left by a second. */
        private int stopsLeft(int bus, int stop, int second) {
            int count = 0;
            while (count < stop && leave[cell(bus, count)] <= second) {
                count++;
            }
            return count;
        }

        int shownSeconds(Line line, int bus, int stop, int second) {
            int from = stopsLeft(bus, stop, second) - 1;
            if (from < 0) {
                return 0;
            }
            int there = leave[cell(bus, from)];
            for (int s = from; s < stop; s++) {
                there += line.ride[s];
            }
            return Math.max(there - second, 0);
        }
    }
}
