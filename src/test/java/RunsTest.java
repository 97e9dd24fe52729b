import java.lang.reflect.Method;
import java.util.ArrayList;
import java.util.HashMap;
import java.util.List;
import java.util.Map;
import java.util.Random;
import java.util.TreeMap;
import java.util.regex.Matcher;
import java.util.regex.Pattern;

/**
 * Random runs of up to 512 calls, every call of the face among them, right and wrong arguments mixed,
 * each answer against a plain second program. Its sheets are rows of the machine itself, so what the
 * machine throws there tells which finding is due.
 */
public final class RunsTest {
    private static final int RUNS = 400, CALLS = 512;
    private static final int NONE = -1, BAD = -2, NOT = -3, FULL = -4;

    /** A letter for each argument; 'Chooser' knows what to choose for it. */
    private static final String[] FACE = {
        "type tb", "wipe t", "undo t", "fault t", "rider rw", "leaver lw", "stop k", "set wv", "lift pw", "ends ",
        "rides rw", "full w", "arrived p", "knows rw", "more m", "leave rlm", "seen ph", "forget ", "read s", "never ",
        "who l", "weigh ", "maybe crqw", "day xnw", "sheet sfi", "lose s", "put sfiy", "get sfi", "copy sisin",
        "write ws", "count a", "digest "};

    /** How often each call of FACE is chosen: to wipe or lose undoes much. */
    private static final int[] OFTEN = {
        8, 1, 4, 4, 4, 4, 3, 6, 12, 3,
        8, 4, 5, 8, 5, 8, 5, 3, 2, 6,
        7, 8, 10, 5, 5, 1, 14, 8, 8, 6, 8, 3};

    /** One ride, noted behind each number of steps. */
    private static final class Trip {
        final int[][] riders;
        final int[][] leavers;
        final int half;
        final int limit;
        final int[] getsIn;
        final int[] arrives;
        final int[] refused;
        /** 0 waits, 1 rides, 2 is out, 3 never comes. */
        final int[] absence;
        int fullBehind = NONE;
        int fullWho = NONE;
        /** Each: place, heavy, riders, absences, arrived. */
        final List<int[]> notes = new ArrayList<>();

        /** A leaver is its step and its rider, or null if it never left. */
        Trip(int[][] riders, int[][] leavers, int[] stops, int half, int limit) {
            this.riders = riders;
            this.leavers = leavers;
            this.half = half;
            this.limit = limit;
            getsIn = new int[riders.length];
            arrives = new int[riders.length];
            refused = new int[riders.length];
            absence = new int[leavers.length];
            for (int r = 0; r < riders.length; r++) {
                getsIn[r] = NONE;
                arrives[r] = riders[r][1] == riders[r][2] ? 0 : NONE;
            }
            for (int l = 0; l < leavers.length; l++) {
                absence[l] = leavers[l] == null || leavers[l][1] >= riders.length ? 3 : 0;
            }
            note(0);
            int floor = 0;
            for (int stop : stops) {
                while (floor != stop) {
                    int next = floor < stop ? floor + 1 : floor - 1;
                    if (Math.min(floor, next) == half) {
                        passHalf();
                    }
                    floor = next;
                    note(2 * floor);
                }
                haltAt(floor);
            }
        }

        private boolean rides(int r) {
            return getsIn[r] != NONE && arrives[r] == NONE;
        }

        private int weightOf(int l) {
            return riders[leavers[l][1]][0] / 2;
        }

        private int load() {
            int sum = 0;
            for (int r = 0; r < riders.length; r++) {
                sum += rides(r) ? riders[r][0] : 0;
            }
            for (int l = 0; l < leavers.length; l++) {
                sum += absence[l] == 1 ? weightOf(l) : 0;
            }
            return sum;
        }

        private void note(int place) {
            int riding = 0;
            int arrived = 0;
            int absent = 0;
            for (int r = 0; r < riders.length; r++) {
                riding |= rides(r) ? 1 << r : 0;
                arrived |= arrives[r] != NONE ? 1 << r : 0;
            }
            for (int l = 0; l < leavers.length; l++) {
                absent |= absence[l] == 1 ? 1 << l : 0;
            }
            notes.add(new int[] {place, load(), riding, absent, arrived});
        }

        private void passHalf() {
            int steps = notes.size() - 1;
            boolean halts = false;
            for (int l = 0; l < leavers.length; l++) {
                if (absence[l] == 0 && leavers[l][0] <= steps) {
                    halts = true;
                    absence[l] = load() + weightOf(l) <= limit ? 1 : 0;
                }
            }
            if (halts) {
                note(2 * half + 1);
            }
        }

        private void haltAt(int floor) {
            int behind = notes.size();
            for (int r = 0; r < riders.length; r++) {
                if (rides(r) && riders[r][2] == floor) {
                    arrives[r] = behind;
                }
            }
            for (int l = 0; l < leavers.length; l++) {
                absence[l] = floor == 0 && absence[l] == 1 ? 2 : absence[l];
            }
            for (int r = 0; r < riders.length; r++) {
                if (riders[r][1] != floor || getsIn[r] != NONE || arrives[r] != NONE) {
                    continue;
                }
                if (load() + riders[r][0] <= limit) {
                    getsIn[r] = behind;
                    continue;
                }
                refused[r]++;
                fullWho = fullWho == NONE ? r : fullWho;
                fullBehind = fullBehind == NONE ? behind : fullBehind;
            }
            note(2 * floor);
        }

        int[] behind(int steps) {
            return notes.get(Math.min(steps, notes.size() - 1));
        }

        int ends() {
            return notes.size() - 1;
        }

        int arrived() {
            return behind(255)[4];
        }

        int[] known() {
            int[] known = new int[riders.length];
            for (int[] note : notes) {
                for (int r = 0; r < riders.length; r++) {
                    known[r] |= (note[2] >> r & 1) * note[3];
                }
            }
            return known;
        }

        int[] heard() {
            int[] heard = new int[riders.length];
            for (int[] note : notes) {
                int talk = note[3];
                for (int r = 0; r < riders.length; r++) {
                    talk |= (note[2] >> r & 1) * heard[r];
                }
                for (int r = 0; r < riders.length; r++) {
                    heard[r] |= (note[2] >> r & 1) * talk;
                }
            }
            return heard;
        }
    }

    /** The document's words, one after another, with no thought of speed. */
    public static final class Plain {
        private static final Pattern[] WELL = {
            Pattern.compile("|[1-9]\\d\\d(;[1-9]\\d\\d){0,7}"), Pattern.compile("|\\d\\d[0-7](;\\d\\d[0-7]){0,7}"),
            Pattern.compile("\\d{0,20}")};
        private final StringBuilder[] texts = {new StringBuilder(), new StringBuilder(), new StringBuilder()};
        private final List<int[]> sights = new ArrayList<>();
        private final Object[] rows = new Object[4];
        private int half = 4;
        private int limit = 20;
        private int latest = 0;

        private static boolean not(int i, int from, int to) {
            return i < from || i > to;
        }

        public int type(int text, int b) {
            if (not(text, 0, 2) || not(b, 0, 255)) {
                return BAD;
            }
            if (texts[text].length() == (text == 2 ? 20 : 31)) {
                return FULL;
            }
            return texts[text].append((char) b).length();
        }

        public int wipe(int text) {
            if (not(text, 0, 2)) {
                return BAD;
            }
            int had = texts[text].length();
            texts[text].setLength(0);
            return had;
        }

        public int undo(int text) {
            if (not(text, 0, 2)) {
                return BAD;
            }
            if (texts[text].length() == 0) {
                return NOT;
            }
            texts[text].setLength(texts[text].length() - 1);
            return texts[text].length();
        }

        public int fault(int text) {
            if (not(text, 0, 2)) {
                return BAD;
            }
            if (WELL[text].matcher(texts[text]).matches()) {
                return NONE;
            }
            for (int n = 1; n <= texts[text].length(); n++) {
                Matcher start = WELL[text].matcher(texts[text].substring(0, n));
                if (!start.matches() && !start.hitEnd()) {
                    return n - 1;
                }
            }
            return texts[text].length();
        }

        private String[] parts(int text) {
            boolean none = fault(text) != NONE || texts[text].length() == 0;
            return none ? new String[0] : texts[text].toString().split(text == 2 ? "" : ";");
        }

        private int[][] riders() {
            String[] parts = parts(0);
            int[][] all = new int[parts.length][];
            for (int r = 0; r < all.length; r++) {
                int n = Integer.parseInt(parts[r]);
                all[r] = new int[] {n / 100, n / 10 % 10, n % 10};
            }
            return all;
        }

        private int[][] leavers() {
            String[] parts = parts(1);
            int[][] all = new int[parts.length][];
            for (int l = 0; l < all.length; l++) {
                int n = Integer.parseInt(parts[l]);
                all[l] = new int[] {n / 10, n % 10};
            }
            return all;
        }

        private int[] stops() {
            String[] parts = parts(2);
            int[] all = new int[parts.length];
            for (int i = 0; i < all.length; i++) {
                all[i] = Integer.parseInt(parts[i]);
            }
            return all;
        }

        private Trip trip(int[][] leavers, int[] stops) {
            return new Trip(riders(), leavers, stops, half, limit);
        }

        private Trip trip() {
            return trip(leavers(), stops());
        }

        public int rider(int rider, int what) {
            return not(rider, 0, riders().length - 1) || not(what, 0, 2) ? BAD : riders()[rider][what];
        }

        public int leaver(int leaver, int what) {
            return not(leaver, 0, leavers().length - 1) || not(what, 0, 1) ? BAD : leavers()[leaver][what];
        }

        public int stop(int i) {
            return not(i, 0, 19) ? BAD : i < stops().length ? stops()[i] : NONE;
        }

        public int set(int what, int v) {
            int was = what == 0 ? half : limit;
            if (what == 0 && !not(v, 0, 8)) {
                half = v;
                return was;
            }
            if (what == 1 && !not(v, 1, 60)) {
                limit = v;
                return was;
            }
            return BAD;
        }

        public int lift(int steps, int what) {
            return not(steps, 0, 255) || not(what, 0, 3) ? BAD : trip().behind(steps)[what];
        }

        public int ends() {
            return trip().ends();
        }

        public int rides(int rider, int what) {
            if (not(rider, 0, riders().length - 1) || not(what, 0, 2)) {
                return BAD;
            }
            Trip trip = trip();
            return new int[][] {trip.getsIn, trip.arrives, trip.refused}[what][rider];
        }

        public int full(int what) {
            return not(what, 0, 1) ? BAD : what == 0 ? trip().fullBehind : trip().fullWho;
        }

        public int arrived(int steps) {
            return not(steps, 0, 255) ? BAD : trip().behind(steps)[4];
        }

        public int knows(int rider, int what) {
            if (not(rider, 0, riders().length - 1) || not(what, 0, 1)) {
                return BAD;
            }
            return what == 0 ? trip().known()[rider] : trip().heard()[rider];
        }

        private static int told(int[] row, int i) {
            return row == null ? NONE : i == NONE ? row.length : i < row.length ? row[i] : NONE;
        }

        private boolean allArrive(int... more) {
            int[] stops = stops();
            int[] longer = java.util.Arrays.copyOf(stops, stops.length + more.length);
            System.arraycopy(more, 0, longer, stops.length, more.length);
            return Integer.bitCount(trip(leavers(), longer).arrived()) == riders().length;
        }

        private int[] more() {
            if (allArrive()) {
                return new int[0];
            }
            for (int a = 0; a < 10; a++) {
                if (allArrive(a)) {
                    return new int[] {a};
                }
            }
            for (int ab = 0; ab < 100; ab++) {
                if (allArrive(ab / 10, ab % 10)) {
                    return new int[] {ab / 10, ab % 10};
                }
            }
            return null;
        }

        public int more(int i) {
            return not(i, -1, 1) ? BAD : told(more(), i);
        }

        private boolean quiet(int rider, int leaver, int... places) {
            List<Integer> kept = new ArrayList<>();
            for (int stop : stops()) {
                kept.add(stop);
            }
            for (int k = places.length - 1; k >= 0; k--) {
                kept.remove(places[k]);
            }
            int[] fewer = kept.stream().mapToInt(Integer::intValue).toArray();
            return (trip(leavers(), fewer).heard()[rider] >> leaver & 1) == 0;
        }

        private int[] leave(int rider, int leaver) {
            int n = stops().length;
            if (quiet(rider, leaver)) {
                return new int[0];
            }
            for (int a = 0; a < n; a++) {
                if (quiet(rider, leaver, a)) {
                    return new int[] {a};
                }
            }
            for (int a = 0; a < n; a++) {
                for (int b = a + 1; b < n; b++) {
                    if (quiet(rider, leaver, a, b)) {
                        return new int[] {a, b};
                    }
                }
            }
            return null;
        }

        public int leave(int rider, int leaver, int i) {
            boolean bad = not(rider, 0, riders().length - 1) || not(leaver, 0, leavers().length - 1) || not(i, -1, 1);
            return bad ? BAD : told(leave(rider, leaver), i);
        }

        public int seen(int steps, int heavy) {
            if (not(steps, 0, 255) || not(heavy, 0, 999)) {
                return BAD;
            }
            if (sights.size() == 8) {
                return FULL;
            }
            sights.add(new int[] {steps, heavy});
            return sights.size();
        }

        public int forget() {
            int had = sights.size();
            sights.clear();
            return had;
        }

        private int itemsOf(Object row) {
            return java.lang.reflect.Array.getLength(row);
        }

        public int read(int s) {
            if (not(s, 0, 3)) {
                return BAD;
            }
            if (rows[s] == null) {
                return found(1);
            }
            int n = 0;
            while (2 * n + 1 < itemsOf(rows[s]) && seen(item(s, 2 * n), item(s, 2 * n + 1)) > 0) {
                n++;
            }
            return n;
        }

        private int item(int s, int i) {
            return ((Number) java.lang.reflect.Array.get(rows[s], i)).intValue();
        }

        private boolean fits(Trip trip) {
            for (int[] sight : sights) {
                if (trip.behind(sight[0])[1] != sight[1]) {
                    return false;
                }
            }
            return true;
        }

        private Trip with(int leaver, int[] other) {
            int[][] leavers = leavers();
            leavers[leaver] = other;
            return trip(leavers, stops());
        }

        public int never() {
            int bits = 0;
            for (int l = 0; l < leavers().length; l++) {
                bits |= fits(with(l, null)) ? 1 << l : 0;
            }
            return bits;
        }

        public int who(int leaver) {
            if (not(leaver, 0, leavers().length - 1)) {
                return BAD;
            }
            int bits = 0;
            for (int r = 0; r < riders().length; r++) {
                bits |= fits(with(leaver, new int[] {leavers()[leaver][0], r})) ? 1 << r : 0;
            }
            return bits;
        }

        public int weigh() {
            List<Trip> trips = new ArrayList<>();
            for (int l = 0; l < leavers().length; l++) {
                if ((never() >> l & 1) != 0) {
                    trips.add(with(l, null));
                }
            }
            int[] greatest = new int[100];
            int best = 0;
            for (int t = 0; t < 100; t++) {
                Map<Integer, Integer> alike = new HashMap<>();
                for (Trip trip : trips) {
                    greatest[t] = Math.max(greatest[t], alike.merge(trip.behind(t)[1], 1, Integer::sum));
                }
                best = greatest[t] < greatest[best] ? t : best;
            }
            return best;
        }

        private long[] chance(int c, int rider, int steps) {
            int n = leavers().length;
            long above = 0;
            for (int set = 0; set < 1 << n; set++) {
                int[][] leavers = leavers();
                long part = 1;
                for (int l = 0; l < n; l++) {
                    boolean leaves = (set >> l & 1) != 0;
                    part *= leaves ? c : 16 - c;
                    leavers[l] = leaves ? leavers[l] : null;
                }
                if (part != 0) {
                    above += part * (trip(leavers, stops()).behind(steps)[4] >> rider & 1);
                }
            }
            long below = 1L << 4 * n;
            long a = above;
            long b = below;
            while (b != 0) {
                long rest = a % b;
                a = b;
                b = rest;
            }
            return new long[] {above / a, below / a};
        }

        public long maybe(int c, int rider, int steps, int what) {
            boolean bad = not(c, 0, 16) || not(rider, 0, riders().length - 1) || not(steps, 0, 255) || not(what, 0, 1);
            return bad ? Long.MIN_VALUE + 2 : chance(c, rider, steps)[what];
        }

        public int day(int seed, int n, int what) {
            if (not(n, 1, 20) || not(what, 0, 1)) {
                return BAD;
            }
            int[] lots = new int[n];
            int lot = seed;
            for (int i = 0; i < n; i++) {
                lot = lot * 1103515245 + 12345;
                lots[i] = (char) (lot >> 16) % 10;
            }
            Trip trip = trip(leavers(), lots);
            return what == 0 ? Integer.bitCount(trip.arrived()) : trip.ends();
        }

        private int found(int number) {
            latest = number;
            return -10 - number;
        }

        private int found(RuntimeException thrown) {
            return found(thrown instanceof NullPointerException ? 1 : thrown instanceof IndexOutOfBoundsException ? 2
                : thrown instanceof ClassCastException ? 3 : thrown instanceof ArrayStoreException ? 4
                : thrown instanceof NegativeArraySizeException ? 5 : 99);
        }

        public int sheet(int s, int form, int n) {
            if (not(s, 0, 3) || not(form, 0, 2) || n > 60) {
                return BAD;
            }
            try {
                rows[s] = form == 0 ? new byte[n] : form == 1 ? new short[n] : (Object) new int[n];
                return n;
            } catch (NegativeArraySizeException e) {
                return found(e);
            }
        }

        public int lose(int s) {
            if (not(s, 0, 3)) {
                return BAD;
            }
            try {
                int had = itemsOf(rows[s]);
                rows[s] = null;
                return had;
            } catch (NullPointerException e) {
                return found(e);
            }
        }

        public int put(int s, int form, int i, int v) {
            if (not(s, 0, 3) || not(form, 0, 2)) {
                return BAD;
            }
            try {
                switch (form) {
                    case 0: ((byte[]) rows[s])[i] = (byte) v; break;
                    case 1: ((short[]) rows[s])[i] = (short) v; break;
                    default: ((int[]) rows[s])[i] = v;
                }
                return 1;
            } catch (RuntimeException e) {
                return found(e);
            }
        }

        public int get(int s, int form, int i) {
            if (not(s, 0, 3) || not(form, 0, 2)) {
                return Integer.MIN_VALUE;
            }
            try {
                return form == 0 ? ((byte[]) rows[s])[i] : form == 1 ? ((short[]) rows[s])[i] : ((int[]) rows[s])[i];
            } catch (RuntimeException e) {
                found(e);
                return Integer.MIN_VALUE;
            }
        }

        public int copy(int s, int i, int t, int j, int n) {
            if (not(s, 0, 3) || not(t, 0, 3)) {
                return BAD;
            }
            try {
                System.arraycopy(rows[s], i, rows[t], j, n);
                return 1;
            } catch (RuntimeException e) {
                return found(e);
            }
        }

        public int write(int what, int s) {
            if (not(what, 0, 3) || not(s, 0, 3)) {
                return BAD;
            }
            if (rows[s] == null) {
                return found(1);
            }
            for (int i = 0; i < itemsOf(rows[s]); i++) {
                put(s, formOf(s), i, lift(i, what));
            }
            return itemsOf(rows[s]);
        }

        private int formOf(int s) {
            return rows[s] instanceof byte[] ? 0 : rows[s] instanceof short[] ? 1 : 2;
        }

        public int count(int what) {
            switch (what) {
                case 0: return riders().length;
                case 1: return leavers().length;
                case 2: return stops().length;
                case 3: case 4: case 5: return texts[what - 3].length();
                case 6: return Integer.bitCount(trip().arrived());
                case 7: return sights.size();
                case 8: return latest;
                default: return BAD;
            }
        }

        public long digest() {
            List<Long> all = new ArrayList<>();
            for (int what = 0; what <= 7; what++) {
                all.add((long) count(what));
            }
            for (int text = 0; text < 3; text++) {
                all.add((long) fault(text));
            }
            for (int r = 0; r < count(0); r++) {
                for (int what = 0; what <= 2; what++) {
                    all.add((long) rider(r, what));
                }
                for (int what = 0; what <= 2; what++) {
                    all.add((long) rides(r, what));
                }
                all.add((long) knows(r, 0));
                all.add((long) knows(r, 1));
            }
            for (int l = 0; l < count(1); l++) {
                all.add((long) leaver(l, 0));
                all.add((long) leaver(l, 1));
                all.add((long) who(l));
            }
            for (int i = 0; i < count(2); i++) {
                all.add((long) stop(i));
            }
            for (int steps : new int[] {0, 9, 20, 60}) {
                for (int what = 0; what <= 3; what++) {
                    all.add((long) lift(steps, what));
                }
                all.add((long) arrived(steps));
            }
            all.addAll(List.of((long) ends(), (long) full(0), (long) full(1), (long) more(NONE), (long) more(0)));
            all.addAll(List.of((long) never(), (long) weigh(), (long) leave(0, 0, NONE), (long) leave(0, 0, 0)));
            all.addAll(List.of(maybe(5, 0, 20, 0), maybe(5, 0, 20, 1), (long) day(7, 12, 0), (long) day(7, 12, 1)));
            long h = 17;
            for (long part : all) {
                h = 31 * h + part;
            }
            return h;
        }
    }

    /** Chooses arguments, mostly such as may be. */
    private static final class Chooser {
        final Random dice;
        final Plain plain;
        final int missing;
        /** Where most go from, and to: so that many arrive. */
        final int[] floors;
        final int[] wild = {Integer.MIN_VALUE, -3, -2, -1, 3, 4, 8, 9, 17, 20, 21, 60, 61, 255, 256, 1000, Integer.MAX_VALUE};

        Chooser(Random dice, Plain plain) {
            this.dice = dice;
            this.plain = plain;
            this.missing = dice.nextInt(8);
            this.floors = new int[] {0, dice.nextInt(10), dice.nextInt(10), dice.nextInt(10)};
        }

        int choose(char kind, List<Object> ahead) {
            // A wrong byte spoils its text for long.
            if (dice.nextInt(kind == 'b' ? 600 : 40) == 0) {
                return wild[dice.nextInt(wild.length)];
            }
            switch (kind) {
                case 't': return dice.nextInt(3);
                case 'b': return nextByte((int) ahead.get(0));
                case 'r': return dice.nextInt(plain.count(0) + 1);
                case 'l': return dice.nextInt(plain.count(1) + 1);
                case 'w': return dice.nextInt(4) == 0 ? dice.nextInt(5) : dice.nextInt(2);
                case 'k': return dice.nextInt(21);
                case 'v': return dice.nextInt(dice.nextBoolean() ? 10 : 62);
                case 'p': return dice.nextInt(dice.nextInt(4) == 0 ? 256 : 60);
                case 'q': return nearArrival((int) ahead.get(1));
                case 'm': return dice.nextInt(4) - 1;
                case 'h': return likelyWeight((int) ahead.get(0));
                case 's': return dice.nextInt(4);
                case 'c': return dice.nextInt(17);
                case 'x': return dice.nextInt();
                case 'n': return dice.nextInt(dice.nextBoolean() ? 22 : 5);
                case 'f': return likelyForm((int) ahead.get(0));
                case 'i': return dice.nextInt(dice.nextInt(3) == 0 ? 62 : 9) - (dice.nextInt(20) == 0 ? 5 : 0);
                case 'y': return dice.nextInt(6) == 0 ? dice.nextInt() : dice.nextInt(dice.nextBoolean() ? 20 : 300);
                case 'a': return dice.nextInt(10);
                default: throw new IllegalStateException("no such argument: " + kind);
            }
        }

        /** Whether a text would be a fault for long if no byte came behind what is there. */
        boolean goesOn(int text) {
            return plain.fault(text) == plain.count(3 + text) && dice.nextInt(60) != 0;
        }

        private int likelyForm(int s) {
            boolean any = s < 0 || s > 3 || plain.rows[s] == null || dice.nextInt(6) == 0;
            return any ? dice.nextInt(3) : plain.formOf(s);
        }

        /** A byte with which the text goes on, but for a few. */
        private int nextByte(int text) {
            if (text < 0 || text > 2 || dice.nextInt(600) == 0) {
                return dice.nextInt(256);
            }
            int place = plain.count(3 + text) % 4;
            if (text != 2 && place == 3) {
                return ';';
            }
            boolean floor = text == 2 || text == 0 && place > 0;
            if (floor && dice.nextInt(4) != 0) {
                return '0' + floors[dice.nextInt(floors.length)];
            }
            int least = text == 0 && place == 0 ? 1 : 0;
            int most = text == 1 && place == 2 ? 7 : text == 1 && place == 0 ? 3 : 9;
            return '0' + least + dice.nextInt(most - least + 1);
        }

        /** Chance shows where it is not sure yet that a rider has arrived. */
        private int nearArrival(int rider) {
            int behind = plain.rides(rider, 1);
            return behind < 0 || dice.nextInt(4) == 0 ? dice.nextInt(256) : Math.max(0, behind + dice.nextInt(5) - 3);
        }

        /** What would be weighed if one had not left, so that something is left to guess. */
        private int likelyWeight(int steps) {
            int n = plain.count(1);
            if (n == 0 || steps < 0 || steps > 255 || dice.nextInt(12) == 0) {
                return dice.nextInt(30);
            }
            return plain.with(dice.nextInt(8) == 0 ? dice.nextInt(n) : missing % n, null).behind(steps)[1];
        }
    }

    private static final Map<String, Method> REAL = methodsOf(LeaversFloor.class);
    private static final Map<String, Method> SECOND = methodsOf(Plain.class);
    private static int wrong = 0;
    private static int asked = 0;

    private static Map<String, Method> methodsOf(Class<?> one) {
        Map<String, Method> all = new TreeMap<>();
        for (Method m : one.getMethods()) {
            if (m.getDeclaringClass() == one) {
                all.put(m.getName(), m);
            }
        }
        return all;
    }

    private static int chooseCall(Random dice) {
        int sum = 0;
        for (int often : OFTEN) {
            sum += often;
        }
        int left = dice.nextInt(sum);
        int k = 0;
        while (left >= OFTEN[k]) {
            left -= OFTEN[k];
            k++;
        }
        return k;
    }

    private static boolean same(String call, List<Object> arguments, Object got, Object want, int run) {
        asked++;
        if (got.equals(want)) {
            return true;
        }
        wrong++;
        System.out.println("run " + run + ": " + call + arguments + " answered " + got + ", due is " + want);
        return false;
    }

    /** The calls of a run, as they are chosen. */
    private static final class Run {
        final int number;
        final Random dice;
        final LeaversFloor x = new LeaversFloor();
        final Plain plain = new Plain();
        final Chooser chooser;
        int calls = 0;
        boolean well = true;

        Run(int number) {
            this.number = number;
            this.dice = new Random(number);
            this.chooser = new Chooser(dice, plain);
        }

        void call(String name, List<Object> arguments) throws ReflectiveOperationException {
            if (calls >= CALLS || !well) {
                return;
            }
            calls++;
            Object got = REAL.get(name).invoke(x, arguments.toArray());
            Object want = SECOND.get(name).invoke(plain, arguments.toArray());
            well = same(name, arguments, got, want, number);
        }

        void callAny(String call) throws ReflectiveOperationException {
            String[] name = call.split(" ", 2);
            List<Object> arguments = new ArrayList<>();
            for (char kind : name[1].toCharArray()) {
                arguments.add(chooser.choose(kind, arguments));
            }
            call(name[0], arguments);
            if (name[0].equals("type") || name[0].equals("undo")) {
                end((int) arguments.get(0));
            }
        }

        /** Types on until a part is ended: a text that is not is as if it was empty. */
        private void end(int text) throws ReflectiveOperationException {
            for (int i = 0; i < 4 && text >= 0 && text <= 2 && chooser.goesOn(text); i++) {
                call("type", List.of(text, chooser.choose('b', List.of(text))));
            }
        }

        private void begin() throws ReflectiveOperationException {
            for (int text = 0; text < 3; text++) {
                int n = dice.nextInt(text == 2 ? 21 : 32);
                for (int i = 0; i < n; i++) {
                    call("type", List.of(text, chooser.choose('b', List.of(text))));
                }
                end(text);
            }
            int form = dice.nextInt(3);
            for (int s = 0; s < 4; s++) {
                call("sheet", List.of(s, dice.nextInt(6) == 0 ? dice.nextInt(3) : form, dice.nextInt(s < 2 ? 9 : 61)));
            }
        }

        void go() throws ReflectiveOperationException {
            begin();
            while (calls < CALLS && well) {
                callAny(FACE[chooseCall(dice)]);
            }
        }
    }

    public static void main(String[] args) throws ReflectiveOperationException {
        if (REAL.size() != FACE.length || !REAL.keySet().equals(SECOND.keySet())) {
            System.out.println("the second program has another face");
            wrong++;
        }
        for (int run = 0; run < RUNS; run++) {
            new Run(run).go();
        }
        System.out.println(asked + " answers of random runs, " + wrong + " wrong");
        if (wrong != 0) {
            System.exit(1);
        }
    }
}
