import java.math.BigInteger;
import java.util.ArrayList;
import java.util.HashMap;
import java.util.List;
import java.util.Map;
import java.util.Random;

/** Random days, each answer against a second program that goes step by step and tries everything. */
public final class ModelTest {
    private static final int DAYS = 1500;
    private static int wrong = 0;
    private static int asked = 0;

    /** What the texts say, as the document has it. */
    private static final class Told {
        String[] texts = {"", "", ""};
        int half = 4;
        int limit = 20;
        List<int[]> seen = new ArrayList<>();

        static final String[] PATTERNS = {
            "([1-9][0-9][0-9](;[1-9][0-9][0-9]){0,7})?",
            "([0-9][0-9][0-7](;[0-9][0-9][0-7]){0,7})?",
            "[0-9]{0,20}"};
        static final char[] FILL = "105;105;105;105;105;105;105;105".toCharArray();

        boolean well(int text) {
            return texts[text].matches(PATTERNS[text]);
        }

        /** The longest beginning that some text goes on from. */
        int fault(int text) {
            if (well(text)) {
                return -1;
            }
            String t = texts[text];
            for (int n = t.length(); n > 0; n--) {
                if (canGoOn(text, t.substring(0, n))) {
                    return n;
                }
            }
            return 0;
        }

        boolean canGoOn(int text, String start) {
            if (text == 2) {
                return start.matches(PATTERNS[2]);
            }
            String whole = start + new String(FILL).substring(start.length());
            return whole.matches(PATTERNS[text]);
        }

        List<int[]> riders() {
            List<int[]> all = new ArrayList<>();
            if (well(0) && !texts[0].isEmpty()) {
                for (String part : texts[0].split(";")) {
                    all.add(new int[] {part.charAt(0) - '0', part.charAt(1) - '0', part.charAt(2) - '0'});
                }
            }
            return all;
        }

        List<int[]> leavers() {
            List<int[]> all = new ArrayList<>();
            if (well(1) && !texts[1].isEmpty()) {
                for (String part : texts[1].split(";")) {
                    all.add(new int[] {Integer.parseInt(part.substring(0, 2)), part.charAt(2) - '0'});
                }
            }
            return all;
        }

        List<Integer> stops() {
            List<Integer> all = new ArrayList<>();
            if (well(2)) {
                for (char c : texts[2].toCharArray()) {
                    all.add(c - '0');
                }
            }
            return all;
        }
    }

    /** A ride, a step at a time. A leaver that is null does not leave. */
    private static final class Steps {
        static final int LAST = 255;
        final List<int[]> riders;
        final List<int[]> leavers;
        final int half;
        final int limit;
        final int[] place = new int[LAST + 1];
        final int[] heavy = new int[LAST + 1];
        final int[] riding = new int[LAST + 1];
        final int[] absent = new int[LAST + 1];
        final int[] arrived = new int[LAST + 1];
        final int[] getsIn;
        final int[] arrives;
        final int[] refused;
        int fullAt = -1;
        int fullWho = -1;
        int ends = 0;
        private int nowRiding = 0;
        private int nowAbsent = 0;
        private int nowArrived = 0;
        private int onceAbsent = 0;

        Steps(List<int[]> riders, List<int[]> leavers, List<Integer> stops, int half, int limit) {
            this.riders = riders;
            this.leavers = leavers;
            this.half = half;
            this.limit = limit;
            getsIn = new int[riders.size()];
            arrives = new int[riders.size()];
            refused = new int[riders.size()];
            for (int r = 0; r < riders.size(); r++) {
                boolean home = riders.get(r)[1] == riders.get(r)[2];
                getsIn[r] = -1;
                arrives[r] = home ? 0 : -1;
                nowArrived |= home ? 1 << r : 0;
            }
            goAlong(stops);
        }

        private void goAlong(List<Integer> stops) {
            int at = 0;
            int next = 0;
            int t = 0;
            note(0, 0);
            while (next < stops.size()) {
                int goal = 2 * stops.get(next);
                int way = Integer.signum(goal - at);
                if (at == goal) {
                    haltAtFloor(at / 2, t + 1);
                    next++;
                } else if (at % 2 != 0) {
                    at += way;
                } else if (at + way == 2 * half + 1 && anyWaits(t)) {
                    at += way;
                    haltAtHalf(t);
                } else {
                    at += 2 * way;
                }
                t++;
                note(t, at);
            }
            ends = t;
            for (t = ends + 1; t <= LAST; t++) {
                note(t, at);
            }
        }

        private void note(int t, int at) {
            place[t] = at;
            heavy[t] = weight();
            riding[t] = nowRiding;
            absent[t] = nowAbsent;
            arrived[t] = nowArrived;
        }

        private int weight() {
            int sum = 0;
            for (int r = 0; r < riders.size(); r++) {
                sum += (nowRiding >> r & 1) * riders.get(r)[0];
            }
            for (int l = 0; l < leavers.size(); l++) {
                sum += (nowAbsent >> l & 1) != 0 ? half(l) : 0;
            }
            return sum;
        }

        private int half(int l) {
            return (int) Math.floor(riders.get(leavers.get(l)[1])[0] / 2.0);
        }

        private boolean waits(int l, int t) {
            int[] leaver = leavers.get(l);
            return leaver != null && leaver[1] < riders.size() && leaver[0] <= t && (onceAbsent >> l & 1) == 0;
        }

        private boolean anyWaits(int t) {
            for (int l = 0; l < leavers.size(); l++) {
                if (waits(l, t)) {
                    return true;
                }
            }
            return false;
        }

        private void haltAtHalf(int t) {
            for (int l = 0; l < leavers.size(); l++) {
                if (waits(l, t) && weight() + half(l) <= limit) {
                    nowAbsent |= 1 << l;
                    onceAbsent |= 1 << l;
                }
            }
        }

        private void haltAtFloor(int floor, int t) {
            for (int r = 0; r < riders.size(); r++) {
                if ((nowRiding >> r & 1) != 0 && riders.get(r)[2] == floor) {
                    nowRiding &= ~(1 << r);
                    nowArrived |= 1 << r;
                    arrives[r] = t;
                }
            }
            if (floor == 0) {
                nowAbsent = 0;
            }
            for (int r = 0; r < riders.size(); r++) {
                int[] rider = riders.get(r);
                if (rider[1] != floor || rider[1] == rider[2] || getsIn[r] != -1) {
                    continue;
                }
                if (weight() + rider[0] <= limit) {
                    nowRiding |= 1 << r;
                    getsIn[r] = t;
                } else {
                    refused[r]++;
                    if (fullAt == -1) {
                        fullAt = t;
                        fullWho = r;
                    }
                }
            }
        }

        int knows(int r) {
            int bits = 0;
            for (int t = 0; t <= LAST; t++) {
                bits |= (riding[t] >> r & 1) != 0 ? absent[t] : 0;
            }
            return bits;
        }

        int[] hears() {
            int[] heard = new int[riders.size()];
            for (int t = 0; t <= LAST; t++) {
                for (int r = 0; r < heard.length; r++) {
                    heard[r] |= (riding[t] >> r & 1) != 0 ? absent[t] : 0;
                }
                for (int round = 0; round < heard.length; round++) {
                    for (int a = 0; a < heard.length; a++) {
                        for (int b = 0; b < heard.length; b++) {
                            if ((riding[t] >> a & 1) != 0 && (riding[t] >> b & 1) != 0) {
                                heard[a] |= heard[b];
                            }
                        }
                    }
                }
            }
            return heard;
        }
    }

    /** All that the document asks for, by trying everything. */
    private static final class Model {
        final Told told;
        final List<int[]> riders;
        final List<int[]> leavers;
        final List<Integer> stops;
        final Steps steps;

        Model(Told told) {
            this.told = told;
            riders = told.riders();
            leavers = told.leavers();
            stops = told.stops();
            steps = ride(leavers, stops);
        }

        Steps ride(List<int[]> otherLeavers, List<Integer> otherStops) {
            return new Steps(riders, otherLeavers, otherStops, told.half, told.limit);
        }

        boolean allArrive(List<Integer> otherStops) {
            return ride(leavers, otherStops).arrived[255] == (1 << riders.size()) - 1;
        }

        List<Integer> more() {
            if (allArrive(stops)) {
                return new ArrayList<>();
            }
            for (int n = 1; n <= 2; n++) {
                for (int code = 0; code < Math.pow(10, n); code++) {
                    List<Integer> extra = new ArrayList<>();
                    for (int k = n - 1; k >= 0; k--) {
                        extra.add(code / (int) Math.pow(10, k) % 10);
                    }
                    List<Integer> longer = new ArrayList<>(stops);
                    longer.addAll(extra);
                    if (allArrive(longer)) {
                        return extra;
                    }
                }
            }
            return null;
        }

        boolean hearsNot(int rider, int leaver, int i, int j) {
            List<Integer> fewer = new ArrayList<>();
            for (int k = 0; k < stops.size(); k++) {
                if (k != i && k != j) {
                    fewer.add(stops.get(k));
                }
            }
            return (ride(leavers, fewer).hears()[rider] >> leaver & 1) == 0;
        }

        List<Integer> leave(int rider, int leaver) {
            if (hearsNot(rider, leaver, -1, -1)) {
                return new ArrayList<>();
            }
            for (int i = 0; i < stops.size(); i++) {
                if (hearsNot(rider, leaver, i, -1)) {
                    return List.of(i);
                }
            }
            for (int i = 0; i < stops.size(); i++) {
                for (int j = i + 1; j < stops.size(); j++) {
                    if (hearsNot(rider, leaver, i, j)) {
                        return List.of(i, j);
                    }
                }
            }
            return null;
        }

        boolean allSeen(Steps ride) {
            for (int[] sight : told.seen) {
                if (ride.heavy[sight[0]] != sight[1]) {
                    return false;
                }
            }
            return true;
        }

        Steps without(int l) {
            List<int[]> others = new ArrayList<>(leavers);
            others.set(l, null);
            return ride(others, stops);
        }

        int never() {
            int bits = 0;
            for (int l = 0; l < leavers.size(); l++) {
                bits |= allSeen(without(l)) ? 1 << l : 0;
            }
            return bits;
        }

        int who(int l) {
            int bits = 0;
            for (int r = 0; r < riders.size(); r++) {
                List<int[]> others = new ArrayList<>(leavers);
                others.set(l, new int[] {leavers.get(l)[0], r});
                bits |= allSeen(ride(others, stops)) ? 1 << r : 0;
            }
            return bits;
        }

        int weigh() {
            List<Steps> rides = new ArrayList<>();
            for (int l = 0; l < leavers.size(); l++) {
                Steps ride = without(l);
                if (allSeen(ride)) {
                    rides.add(ride);
                }
            }
            int best = -1;
            int least = 99;
            for (int t = 0; t <= 99; t++) {
                Map<Integer, Integer> groups = new HashMap<>();
                int most = 0;
                for (Steps ride : rides) {
                    most = Math.max(most, groups.merge(ride.heavy[t], 1, Integer::sum));
                }
                if (most < least) {
                    least = most;
                    best = t;
                }
            }
            return best;
        }

        BigInteger[] maybe(int c, int rider, int t) {
            BigInteger above = BigInteger.ZERO;
            BigInteger below = BigInteger.valueOf(16).pow(leavers.size());
            for (int set = 0; set < 1 << leavers.size(); set++) {
                List<int[]> some = new ArrayList<>();
                BigInteger chance = BigInteger.ONE;
                for (int l = 0; l < leavers.size(); l++) {
                    boolean leaves = (set >> l & 1) != 0;
                    some.add(leaves ? leavers.get(l) : null);
                    chance = chance.multiply(BigInteger.valueOf(leaves ? c : 16 - c));
                }
                if (chance.signum() > 0 && (ride(some, stops).arrived[t] >> rider & 1) != 0) {
                    above = above.add(chance);
                }
            }
            BigInteger common = above.gcd(below);
            return new BigInteger[] {above.divide(common), below.divide(common)};
        }

        Steps day(int seed, int n) {
            List<Integer> lots = new ArrayList<>();
            long s = seed & 0xffffffffL;
            for (int i = 0; i < n; i++) {
                s = (s * 1103515245L + 12345L) & 0xffffffffL;
                lots.add((int) (s / 65536 % 10));
            }
            return ride(leavers, lots);
        }
    }

    private static void due(String call, Told told, long got, long want) {
        asked++;
        if (got != want) {
            wrong++;
            if (wrong < 40) {
                System.out.println(call + " answered " + got + ", due is " + want + " for " + String.join(" ", told.texts)
                    + " half " + told.half + " limit " + told.limit + " seen " + told.seen.size());
            }
        }
    }

    private static int item(List<Integer> row, int i) {
        if (row == null) {
            return -1;
        }
        return i == -1 ? row.size() : i < row.size() ? row.get(i) : -1;
    }

    private static String figures(Random dice, String low, int most) {
        StringBuilder text = new StringBuilder();
        int parts = dice.nextInt(most + 1);
        for (int i = 0; i < parts; i++) {
            if (i > 0) {
                text.append(';');
            }
            text.append((char) (low.charAt(0) + dice.nextInt(low.charAt(1) - low.charAt(0) + 1)));
            text.append((char) ('0' + dice.nextInt(10)));
            text.append((char) (low.charAt(2) + dice.nextInt(low.charAt(3) - low.charAt(2) + 1)));
        }
        return text.toString();
    }

    private static String spoil(Random dice, String text, int most) {
        if (dice.nextInt(12) != 0 || text.length() >= most) {
            return text;
        }
        int at = dice.nextInt(text.length() + 1);
        char b = dice.nextBoolean() ? "0859;:/a".charAt(dice.nextInt(8)) : (char) dice.nextInt(256);
        return text.substring(0, at) + b + text.substring(at);
    }

    private static Told randomDay(Random dice) {
        Told told = new Told();
        told.texts[0] = spoil(dice, figures(dice, "1909", 8), 31);
        told.texts[1] = spoil(dice, figures(dice, dice.nextInt(4) == 0 ? "0907" : "0307", 8), 31);
        StringBuilder stops = new StringBuilder();
        int n = dice.nextInt(21);
        int floors = dice.nextInt(3) == 0 ? 3 : 10;
        for (int i = 0; i < n; i++) {
            stops.append((char) ('0' + dice.nextInt(floors)));
        }
        told.texts[2] = spoil(dice, stops.toString(), 20);
        told.half = dice.nextInt(9);
        told.limit = dice.nextBoolean() ? 1 + dice.nextInt(60) : 5 + dice.nextInt(20);
        return told;
    }

    private static LeaversFloor make(Told told) {
        LeaversFloor x = new LeaversFloor();
        for (int text = 0; text < 3; text++) {
            for (int i = 0; i < told.texts[text].length(); i++) {
                x.type(text, told.texts[text].charAt(i));
            }
        }
        x.set(0, told.half);
        x.set(1, told.limit);
        return x;
    }

    private static void askRides(LeaversFloor x, Told told, Model m) {
        for (int text = 0; text < 3; text++) {
            due("fault " + text, told, x.fault(text), told.fault(text));
        }
        due("count 0", told, x.count(0), m.riders.size());
        due("count 1", told, x.count(1), m.leavers.size());
        due("count 2", told, x.count(2), m.stops.size());
        due("count 6", told, x.count(6), Integer.bitCount(m.steps.arrived[255]));
        for (int t = 0; t <= 255; t++) {
            due("lift " + t + " 0", told, x.lift(t, 0), m.steps.place[t]);
            due("lift " + t + " 1", told, x.lift(t, 1), m.steps.heavy[t]);
            due("lift " + t + " 2", told, x.lift(t, 2), m.steps.riding[t]);
            due("lift " + t + " 3", told, x.lift(t, 3), m.steps.absent[t]);
            due("arrived " + t, told, x.arrived(t), m.steps.arrived[t]);
        }
        due("ends", told, x.ends(), m.steps.ends);
        due("full 0", told, x.full(0), m.steps.fullAt);
        due("full 1", told, x.full(1), m.steps.fullWho);
        int[] heard = m.steps.hears();
        for (int r = 0; r < m.riders.size(); r++) {
            for (int what = 0; what < 3; what++) {
                due("rider " + r + " " + what, told, x.rider(r, what), m.riders.get(r)[what]);
            }
            due("rides " + r + " 0", told, x.rides(r, 0), m.steps.getsIn[r]);
            due("rides " + r + " 1", told, x.rides(r, 1), m.steps.arrives[r]);
            due("rides " + r + " 2", told, x.rides(r, 2), m.steps.refused[r]);
            due("knows " + r + " 0", told, x.knows(r, 0), m.steps.knows(r));
            due("knows " + r + " 1", told, x.knows(r, 1), heard[r]);
        }
        for (int l = 0; l < m.leavers.size(); l++) {
            due("leaver " + l + " 0", told, x.leaver(l, 0), m.leavers.get(l)[0]);
            due("leaver " + l + " 1", told, x.leaver(l, 1), m.leavers.get(l)[1]);
        }
        for (int i = 0; i < 20; i++) {
            due("stop " + i, told, x.stop(i), i < m.stops.size() ? m.stops.get(i) : -1);
        }
    }

    private static void askPlans(LeaversFloor x, Told told, Model m, Random dice) {
        List<Integer> more = m.more();
        for (int i = -1; i < 2; i++) {
            due("more " + i, told, x.more(i), item(more, i));
        }
        for (int k = 0; k < 4 && !m.riders.isEmpty() && !m.leavers.isEmpty(); k++) {
            int r = dice.nextInt(m.riders.size());
            int l = dice.nextInt(m.leavers.size());
            List<Integer> out = m.leave(r, l);
            for (int i = -1; i < 2; i++) {
                due("leave " + r + " " + l + " " + i, told, x.leave(r, l, i), item(out, i));
            }
        }
    }

    private static void askGuesses(LeaversFloor x, Told told, Model m) {
        due("never", told, x.never(), m.never());
        due("weigh", told, x.weigh(), m.weigh());
        for (int l = 0; l < m.leavers.size(); l++) {
            due("who " + l, told, x.who(l), m.who(l));
        }
        due("count 7", told, x.count(7), told.seen.size());
    }

    /** Mostly what would be seen with one leaver away, so that something is left to guess. */
    private static void see(LeaversFloor x, Told told, Model m, Random dice) {
        Steps ride = m.leavers.isEmpty() ? m.steps : m.without(dice.nextInt(m.leavers.size()));
        int n = 1 + dice.nextInt(3);
        for (int k = 0; k < n && told.seen.size() < 8; k++) {
            int t = dice.nextInt(8) == 0 ? dice.nextInt(256) : dice.nextInt(60);
            int heavy = dice.nextInt(10) == 0 ? dice.nextInt(30) : ride.heavy[t];
            told.seen.add(new int[] {t, heavy});
            due("seen", told, x.seen(t, heavy), told.seen.size());
        }
    }

    private static void askChances(LeaversFloor x, Told told, Model m, Random dice) {
        for (int k = 0; k < 2 && !m.riders.isEmpty(); k++) {
            int c = dice.nextInt(17);
            int r = dice.nextInt(m.riders.size());
            int t = dice.nextBoolean() ? 255 : dice.nextInt(120);
            BigInteger[] chance = m.maybe(c, r, t);
            due("maybe " + c + " " + r + " " + t + " 0", told, x.maybe(c, r, t, 0), chance[0].longValueExact());
            due("maybe " + c + " " + r + " " + t + " 1", told, x.maybe(c, r, t, 1), chance[1].longValueExact());
        }
        for (int k = 0; k < 4; k++) {
            int seed = dice.nextInt();
            int n = 1 + dice.nextInt(20);
            Steps day = m.day(seed, n);
            due("day " + seed + " " + n + " 0", told, x.day(seed, n, 0), Integer.bitCount(day.arrived[255]));
            due("day " + seed + " " + n + " 1", told, x.day(seed, n, 1), day.ends);
        }
    }

    private static long mix(long h, long... parts) {
        for (long part : parts) {
            h = 31 * h + part;
        }
        return h;
    }

    private static void askDigest(LeaversFloor x, Told told, Model m) {
        Steps s = m.steps;
        long h = mix(17, m.riders.size(), m.leavers.size(), m.stops.size(), told.texts[0].length(), told.texts[1].length(),
            told.texts[2].length(), Integer.bitCount(s.arrived[255]), told.seen.size());
        h = mix(h, told.fault(0), told.fault(1), told.fault(2));
        int[] heard = s.hears();
        for (int r = 0; r < m.riders.size(); r++) {
            int[] rider = m.riders.get(r);
            h = mix(h, rider[0], rider[1], rider[2], s.getsIn[r], s.arrives[r], s.refused[r], s.knows(r), heard[r]);
        }
        for (int l = 0; l < m.leavers.size(); l++) {
            h = mix(h, m.leavers.get(l)[0], m.leavers.get(l)[1], m.who(l));
        }
        for (int stop : m.stops) {
            h = mix(h, stop);
        }
        for (int t : new int[] {0, 9, 20, 60}) {
            h = mix(h, s.place[t], s.heavy[t], s.riding[t], s.absent[t], s.arrived[t]);
        }
        List<Integer> more = m.more();
        h = mix(h, s.ends, s.fullAt, s.fullWho, item(more, -1), item(more, 0), m.never(), m.weigh());
        boolean both = !m.riders.isEmpty() && !m.leavers.isEmpty();
        List<Integer> out = both ? m.leave(0, 0) : null;
        h = both ? mix(h, item(out, -1), item(out, 0)) : mix(h, -2, -2);
        if (m.riders.isEmpty()) {
            h = mix(h, Long.MIN_VALUE + 2, Long.MIN_VALUE + 2);
        } else {
            BigInteger[] chance = m.maybe(5, 0, 20);
            h = mix(h, chance[0].longValueExact(), chance[1].longValueExact());
        }
        Steps day = m.day(7, 12);
        due("digest", told, x.digest(), mix(h, Integer.bitCount(day.arrived[255]), day.ends));
    }

    /** The same object with other texts: what was worked out before must not be told again. */
    private static void change(LeaversFloor x, Told told, Random dice) {
        Told other = randomDay(dice);
        int text = dice.nextInt(3);
        switch (dice.nextInt(4)) {
            case 0:
                x.wipe(text);
                told.texts[text] = "";
                for (char b : other.texts[text].toCharArray()) {
                    x.type(text, b);
                    told.texts[text] += b;
                }
                break;
            case 1:
                if (!told.texts[text].isEmpty()) {
                    x.undo(text);
                    told.texts[text] = told.texts[text].substring(0, told.texts[text].length() - 1);
                }
                break;
            case 2:
                x.set(0, other.half);
                told.half = other.half;
                break;
            default:
                x.set(1, other.limit);
                told.limit = other.limit;
        }
    }

    public static void main(String[] args) {
        Random dice = new Random(20261118);
        for (int day = 0; day < DAYS; day++) {
            Told told = randomDay(dice);
            LeaversFloor x = make(told);
            for (int round = 0; round < 2; round++) {
                Model m = new Model(told);
                askRides(x, told, m);
                askGuesses(x, told, m);
                see(x, told, m, dice);
                askGuesses(x, told, m);
                askPlans(x, told, m, dice);
                askChances(x, told, m, dice);
                askDigest(x, told, m);
                change(x, told, dice);
            }
        }
        System.out.println(asked + " answers against the model, " + wrong + " wrong");
        if (wrong != 0) {
            System.exit(1);
        }
    }
}
