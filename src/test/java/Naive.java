import java.math.BigInteger;
import java.util.ArrayList;
import java.util.Comparator;
import java.util.LinkedHashMap;
import java.util.List;
import java.util.Map;
import java.util.regex.Matcher;
import java.util.regex.Pattern;

/**
 * The document told a second time, slowly and in another way: BUSES come one by one in the order
 * of time over the whole line, and each person is an object of its own.
 */
final class Naive {
    private static final Pattern TEXT = Pattern.compile("[0-9][cg][0-9]{1,3}(;[0-9][cg][0-9]{1,3})*");
    private static final Pattern LINE = Pattern.compile("([0-9])([cg])([0-9]{1,3})");

    /** One who comes. */
    private static final class Person {
        int from;
        int goal;
        int came;
        int gotOn = -1;
        int gotOff = -1;
        boolean stranded;
    }

    private record Lateness(int bus, int stop, int seconds) {
    }

    private static final class Bus {
        int number;
        int second;
        int seats;
        int end = 9;
    }

    /** A BUS at a STOP. */
    private static final class Visit {
        int comes;
        int leaves;
        int on;
        int off;
        int inside;
        int left;
        boolean goesOn;
    }

    /** All that happened. */
    private static final class Day {
        final Map<String, Visit> visits = new LinkedHashMap<>();
        final List<List<Person>> people = new ArrayList<>();

        Visit visit(int bus, int stop) {
            return visits.get(bus + "/" + stop);
        }

        List<Person> riders() {
            List<Person> riders = new ArrayList<>();
            for (List<Person> atStop : people) {
                for (Person p : atStop) {
                    if (p.gotOn >= 0) {
                        riders.add(p);
                    }
                }
            }
            return riders;
        }

        int waited() {
            return riders().stream().mapToInt(p -> p.gotOn - p.came).sum();
        }

        int rode() {
            return riders().stream().mapToInt(p -> p.gotOff - p.gotOn).sum();
        }

        int stranded() {
            return (int) riders().stream().filter(p -> p.stranded).count();
        }
    }

    private final int[] ride = {120, 120, 120, 120, 120, 120, 120, 120, 120};
    private final int[] gap = new int[9];
    private final int[] trip = {3, 3, 3, 3, 3, 3, 3, 3, 3};
    private final int[] settings = {8, 2, 1, 0, 30};
    private final List<Bus> buses = new ArrayList<>();
    private final List<Lateness> latenesses = new ArrayList<>();
    private String signs = "";
    private String rule = "";

    // ---- calls that change

    long stop(int stop, int what, int v) {
        if (stop < 0 || stop > 8) {
            return -1;
        }
        int[][] rows = {ride, gap, trip};
        boolean right = what == 0 && v >= 10 && v <= 900 || what == 1 && (v == 0 || v >= 10 && v <= 900)
            || what == 2 && v >= 1 && v <= 9;
        if (!right) {
            return -2;
        }
        int was = rows[what][stop];
        rows[what][stop] = v;
        return was;
    }

    long bus(int second, int seats) {
        int soonest = buses.isEmpty() ? 0 : buses.get(buses.size() - 1).second;
        if (second < soonest || second > 7200 || seats < 1 || seats > 80) {
            return -2;
        }
        if (buses.size() == 8) {
            return -4;
        }
        Bus b = new Bus();
        b.number = buses.size();
        b.second = second;
        b.seats = seats;
        buses.add(b);
        return b.number;
    }

    long set(int which, int v) {
        int[] most = {60, 10, 10, 1, 600};
        if (which < 0 || which > 4 || v < 0 || v > most[which]) {
            return -2;
        }
        int was = settings[which];
        settings[which] = v;
        return was;
    }

    long late(int bus, int stop, int seconds) {
        if (bus < 0 || bus >= buses.size() || stop < 0 || stop > 8) {
            return -1;
        }
        if (seconds < 1 || seconds > 900) {
            return -2;
        }
        if (latenesses.size() == 10) {
            return -4;
        }
        latenesses.add(new Lateness(bus, stop, seconds));
        return latenesses.size() - 1;
    }

    long mend() {
        if (latenesses.isEmpty()) {
            return -5;
        }
        latenesses.remove(latenesses.size() - 1);
        return latenesses.size();
    }

    long turn(int bus, int stop) {
        if (bus < 0 || bus >= buses.size()) {
            return -1;
        }
        if (stop < 1 || stop > 9) {
            return -2;
        }
        int was = buses.get(bus).end;
        buses.get(bus).end = stop;
        return was;
    }

    long say(int sign) {
        if (sign < 33 || sign > 126) {
            return -2;
        }
        if (signs.length() == 40) {
            return -4;
        }
        signs += (char) sign;
        return signs.length();
    }

    long wipe() {
        int were = signs.length();
        signs = "";
        return were;
    }

    long fault() {
        for (int n = 1; n <= signs.length(); n++) {
            if (!couldBegin(signs.substring(0, n))) {
                return n - 1;
            }
        }
        return TEXT.matcher(signs).matches() ? -6 : signs.length();
    }

    private static boolean couldBegin(String text) {
        Matcher m = TEXT.matcher(text);
        if (!m.matches() && !m.hitEnd()) {
            return false;
        }
        String[] lines = text.split(";", -1);
        for (int i = 0; i < lines.length; i++) {
            for (int j = 0; j < i; j++) {
                if (!lines[i].isEmpty() && lines[i].charAt(0) == lines[j].charAt(0)) {
                    return false;
                }
            }
        }
        return lines.length <= 10;
    }

    long rule() {
        if (fault() != -6) {
            return -5;
        }
        rule = signs;
        signs = "";
        return lines();
    }

    long free() {
        int were = lines();
        rule = "";
        return were;
    }

    private int lines() {
        return rule.isEmpty() ? 0 : rule.split(";").length;
    }

    // ---- the day

    private Day now() {
        return day(rule, latenesses);
    }

    private Day day(String byRule, List<Lateness> lates) {
        Day day = new Day();
        int horizon = 400000;
        for (int stop = 0; stop < 9; stop++) {
            List<Person> atStop = new ArrayList<>();
            // As many as all seats of all BUSES could ever take and some more: who is behind them is not seen.
            for (int n = 1; gap[stop] > 0 && n * gap[stop] <= horizon && n <= 8 * 80 + 1; n++) {
                Person p = new Person();
                p.from = stop;
                p.goal = Math.min(9, stop + trip[stop]);
                p.came = n * gap[stop];
                atStop.add(p);
            }
            day.people.add(atStop);
        }
        int[] next = new int[buses.size()];
        List<List<Person>> inside = new ArrayList<>();
        for (int i = 0; i < buses.size(); i++) {
            inside.add(new ArrayList<>());
        }
        for (int n = 0; n < buses.size() * 10; n++) {
            int best = -1;
            int bestTime = 0;
            for (Bus b : buses) {
                if (next[b.number] <= b.end) {
                    int time = comingTime(day, b, next[b.number]);
                    if (time >= 0 && (best < 0 || time < bestTime)) {
                        best = b.number;
                        bestTime = time;
                    }
                }
            }
            if (best >= 0) {
                call(day, buses.get(best), next[best], bestTime, inside.get(best), byRule, lates);
                next[best]++;
            }
        }
        return day;
    }

    /** When a BUS comes to its next STOP, or -1 if one of a lesser number must have been there first. */
    private int comingTime(Day day, Bus b, int stop) {
        int time = stop == 0 ? b.second : day.visit(b.number, stop - 1).leaves + ride[stop - 1];
        if (settings[3] == 1) {
            return time;
        }
        for (Bus ahead : buses) {
            if (ahead.number < b.number && stop <= ahead.end) {
                Visit v = day.visit(ahead.number, stop);
                if (v == null) {
                    return -1;
                }
                time = Math.max(time, v.leaves);
            }
        }
        return time;
    }

    private void call(Day day, Bus b, int stop, int second, List<Person> inside, String byRule, List<Lateness> lates) {
        Visit v = new Visit();
        v.comes = second;
        v.goesOn = stop < b.end;
        int gotOff = 0;
        for (Person p : new ArrayList<>(inside)) {
            if (p.goal == stop || !v.goesOn) {
                inside.remove(p);
                gotOff++;
                p.gotOff = second;
                p.stranded = p.goal != stop;
                v.off += p.stranded ? 0 : 1;
            }
        }
        if (stop < 9) {
            for (Person p : day.people.get(stop)) {
                if (p.gotOn < 0 && p.came <= second && v.goesOn && inside.size() < b.seats) {
                    p.gotOn = second;
                    inside.add(p);
                    v.on++;
                }
            }
            v.left = gap[stop] == 0 ? 0 : second / gap[stop];
            for (Person p : day.people.get(stop)) {
                v.left -= p.gotOn >= 0 ? 1 : 0;
            }
        }
        v.inside = inside.size();
        v.leaves = second;
        if (v.on + gotOff > 0) {
            v.leaves += settings[0] + settings[1] * v.on + settings[2] * gotOff;
        }
        for (Lateness l : lates) {
            if (l.bus == b.number && l.stop == stop) {
                v.leaves += l.seconds;
            }
        }
        if (v.goesOn) {
            v.leaves = Math.max(v.leaves, soonest(day, b, stop, second, byRule));
        }
        day.visits.put(b.number + "/" + stop, v);
    }

    private int soonest(Day day, Bus b, int stop, int second, String byRule) {
        Matcher m = LINE.matcher(byRule);
        int soonest = 0;
        while (m.find()) {
            if (Integer.parseInt(m.group(1)) != stop) {
                continue;
            }
            int number = Integer.parseInt(m.group(3));
            if (m.group(2).equals("c")) {
                soonest = (stop == 0 ? second : day.visit(b.number, 0).comes) + 10 * number;
                continue;
            }
            for (Bus other : buses) {
                Visit v = day.visit(other.number, stop);
                if (v != null && v.goesOn) {
                    soonest = Math.max(soonest, v.leaves + number);
                }
            }
        }
        return soonest;
    }

    // ---- calls that tell

    long at(int bus, int stop, int what) {
        if (bus < 0 || bus >= buses.size() || stop < 0 || stop > 9) {
            return -1;
        }
        if (what < 0 || what > 5) {
            return -2;
        }
        Visit v = now().visit(bus, stop);
        return v == null ? -6 : new int[] {v.comes, v.leaves, v.on, v.off, v.inside, v.left}[what];
    }

    /** BUSES that go on from a STOP, as they leave it. */
    private List<Bus> leaving(Day day, int stop) {
        List<Bus> going = new ArrayList<>();
        for (Bus b : buses) {
            Visit v = day.visit(b.number, stop);
            if (v != null && v.goesOn) {
                going.add(b);
            }
        }
        going.sort(Comparator.comparingInt((Bus b) -> day.visit(b.number, stop).leaves).thenComparingInt(b -> b.number));
        return going;
    }

    private List<Integer> follows(Day day, int stop) {
        List<Bus> going = leaving(day, stop);
        List<Integer> follows = new ArrayList<>();
        for (int i = 1; i < going.size(); i++) {
            follows.add(day.visit(going.get(i).number, stop).leaves - day.visit(going.get(i - 1).number, stop).leaves);
        }
        return follows;
    }

    long follow(int stop, int k) {
        if (stop < 0 || stop > 8) {
            return -1;
        }
        List<Integer> follows = follows(now(), stop);
        if (k == 0) {
            return follows.size();
        }
        return k >= 1 && k <= follows.size() ? follows.get(k - 1) : -6;
    }

    /** The STOP and the BUS of ONE, or null. */
    private int[] one(Day day) {
        for (int stop = 0; stop < 9; stop++) {
            List<Integer> follows = follows(day, stop);
            for (int i = 0; i < follows.size(); i++) {
                if (follows.get(i) <= settings[4]) {
                    return new int[] {stop, leaving(day, stop).get(i + 1).number};
                }
            }
        }
        return null;
    }

    long one(int what) {
        if (what < 0 || what > 1) {
            return -2;
        }
        int[] one = one(now());
        return one == null ? -6 : one[what];
    }

    long began() {
        if (one(now()) == null) {
            return 0;
        }
        long bits = 0;
        for (int i = 0; i < latenesses.size(); i++) {
            List<Lateness> others = new ArrayList<>(latenesses);
            others.remove(i);
            bits += one(day(rule, others)) == null ? 1L << i : 0;
        }
        return bits;
    }

    long spread(int stop) {
        if (stop < 0 || stop > 8) {
            return -1;
        }
        List<Integer> follows = follows(now(), stop);
        follows.sort(null);
        return follows.isEmpty() ? -6 : follows.get(follows.size() - 1) - follows.get(0);
    }

    private long[] waits(int stop) {
        long[] waits = new long[3];
        for (Person p : now().riders()) {
            if (p.from == stop) {
                waits[0]++;
                waits[1] += p.gotOn - p.came;
                waits[2] = Math.max(waits[2], p.gotOn - p.came);
            }
        }
        return waits;
    }

    long waited(int stop, int what) {
        if (stop < 0 || stop > 8) {
            return -1;
        }
        return what < 0 || what > 2 ? -2 : waits(stop)[what];
    }

    long mean(int stop, int what, int part) {
        if (stop < 0 || stop > 8) {
            return -1000000000000000001L;
        }
        if (what < 0 || what > 1 || part < 0 || part > 1) {
            return -1000000000000000002L;
        }
        long upper = waits(stop)[1];
        long lower = waits(stop)[0];
        if (what == 1) {
            List<Integer> follows = follows(now(), stop);
            upper = follows.stream().mapToInt(f -> f).sum();
            lower = 2L * follows.size();
        }
        if (lower == 0) {
            return part;
        }
        long divisor = BigInteger.valueOf(upper).gcd(BigInteger.valueOf(lower)).longValue();
        return (part == 0 ? upper : lower) / divisor;
    }

    long all(int what) {
        if (what < 0 || what > 2) {
            return -2;
        }
        Day day = now();
        return new int[] {day.waited(), day.rode(), day.stranded()}[what];
    }

    long held(int bus, int stop, int seconds) {
        Day day = now();
        if (stop == 9 || day.visit(bus, stop) == null || seconds < 1 || seconds > 900) {
            return -2000000000;
        }
        List<Lateness> more = new ArrayList<>(latenesses);
        more.add(new Lateness(bus, stop, seconds));
        Day then = day(rule, more);
        return then.waited() + then.rode() - day.waited() - day.rode();
    }

    long board(int stop, int second, int what) {
        if (stop < 1 || stop > 9) {
            return -1;
        }
        if (second < 0 || second > 20000 || what < 0 || what > 2) {
            return -2;
        }
        Day day = now();
        int bus = -1;
        int lastLeft = -1;
        for (Bus b : buses) {
            Visit there = day.visit(b.number, stop);
            for (int s = 0; there != null && there.comes > second && s < stop; s++) {
                if (day.visit(b.number, s).leaves <= second && s > lastLeft) {
                    lastLeft = s;
                    bus = b.number;
                }
            }
        }
        if (bus < 0) {
            return what == 2 ? -2000000000 : -6;
        }
        int would = day.visit(bus, lastLeft).leaves;
        for (int s = lastLeft; s < stop; s++) {
            would += ride[s];
        }
        int shown = Math.max(0, would - second);
        return new int[] {shown, bus, day.visit(bus, stop).comes - second - shown}[what];
    }

    long best(int what) {
        if (what < 0 || what > 1) {
            return -2;
        }
        if (buses.isEmpty()) {
            return -3;
        }
        long least = Long.MAX_VALUE;
        int[] best = new int[2];
        for (int stop = 8; stop >= 0; stop--) {
            for (int wait = 600; wait >= 0; wait -= 60) {
                Day day = day(stop + "g" + wait, latenesses);
                long cost = day.waited() + day.rode() + 1000L * day.stranded();
                if (cost <= least) {
                    least = cost;
                    best = new int[] {stop, wait};
                }
            }
        }
        return best[what];
    }

    long told(int what) {
        if (what < 0 || what > 8) {
            return -2;
        }
        if (what >= 4) {
            return settings[what - 4];
        }
        return new int[] {buses.size(), latenesses.size(), signs.length(), lines()}[what];
    }
}
