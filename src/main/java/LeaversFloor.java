import java.util.Arrays;

/**
 * A lift that halts between two floors for the absences of those who have left.
 * All rows are made with the object and used again, so that no call makes anything new.
 */
public final class LeaversFloor {
    public static final int NONE = -1, BAD = -2, NOT = -3, FULL = -4;

    private static final int RIDERS = 0, LEAVERS = 1, STOPS = 2, TEXTS = 3;
    private static final int MOST = 8, MOST_STOPS = 20, MOST_MORE = 2, FLOORS = 10;
    private static final int LONG_TEXT = 31, LAST_STEP = 255, WEIGHED_STEPS = 100;
    private static final int MOST_HEAVY = 999, SIXTEENTHS = 16;
    private static final int SHEETS = 4, FORMS = 3, ITEMS = 60;
    private static final int NULL = 1, INDEX = 2, CAST = 3, STORE = 4, SIZE = 5;
    private static final int LIFT_ANSWERS = 4, COUNTS = 9, DIGEST_COUNTS = 8;
    private static final int[] DIGEST_STEPS = {0, 9, 20, 60};

    private final Text[] texts = new Text[TEXTS];
    private final Sheet[] sheets = new Sheet[SHEETS];
    private final House house = new House();
    private final Ride told = new Ride(house);
    private final Ride trial = new Ride(house);
    private final Plans plans = new Plans(house, trial);
    private final Chances chances = new Chances(house, trial);
    private final Sights sights = new Sights();
    private final Guesses guesses = new Guesses(house, trial, sights);
    private int finding = 0;
    private boolean stale = true;

    public LeaversFloor() {
        for (int i = 0; i < TEXTS; i++) {
            texts[i] = new Text(i);
        }
        for (int s = 0; s < SHEETS; s++) {
            sheets[s] = new Sheet();
        }
    }

    // ---- riders, leavers, stops

    public int type(int text, int b) {
        if (noSuchText(text) || b < 0 || b > 255) {
            return BAD;
        }
        if (!texts[text].append(b)) {
            return FULL;
        }
        stale = true;
        return texts[text].length;
    }

    public int wipe(int text) {
        if (noSuchText(text)) {
            return BAD;
        }
        int had = texts[text].length;
        texts[text].length = 0;
        stale = true;
        return had;
    }

    public int undo(int text) {
        if (noSuchText(text)) {
            return BAD;
        }
        if (texts[text].length == 0) {
            return NOT;
        }
        texts[text].length--;
        stale = true;
        return texts[text].length;
    }

    public int fault(int text) {
        return noSuchText(text) ? BAD : texts[text].firstFault();
    }

    public int rider(int rider, int what) {
        freshen();
        if (noSuchRider(rider)) {
            return BAD;
        }
        switch (what) {
            case 0: return house.heavy[rider];
            case 1: return house.from[rider];
            case 2: return house.to[rider];
            default: return BAD;
        }
    }

    public int leaver(int leaver, int what) {
        freshen();
        if (noSuchLeaver(leaver)) {
            return BAD;
        }
        switch (what) {
            case 0: return house.leftAt[leaver];
            case 1: return house.whoLeft[leaver];
            default: return BAD;
        }
    }

    public int stop(int i) {
        if (i < 0 || i >= MOST_STOPS) {
            return BAD;
        }
        freshen();
        return i < house.stops ? house.stopAt[i] : NONE;
    }

    public int set(int what, int v) {
        int was;
        if (what == 0 && v >= 0 && v <= 8) {
            was = house.half;
            house.half = v;
        } else if (what == 1 && v >= 1 && v <= 60) {
            was = house.limit;
            house.limit = v;
        } else {
            return BAD;
        }
        stale = true;
        return was;
    }

    // ---- rides

    public int lift(int steps, int what) {
        if (noSuchStep(steps) || what < 0 || what >= LIFT_ANSWERS) {
            return BAD;
        }
        freshen();
        return told.tell(steps, what);
    }

    public int ends() {
        freshen();
        return told.endsBehind();
    }

    public int rides(int rider, int what) {
        freshen();
        if (noSuchRider(rider)) {
            return BAD;
        }
        switch (what) {
            case 0: return told.getsInBehind(rider);
            case 1: return told.arrivesBehind(rider);
            case 2: return told.timesRefused(rider);
            default: return BAD;
        }
    }

    public int full(int what) {
        if (what < 0 || what > 1) {
            return BAD;
        }
        freshen();
        return what == 0 ? told.refusesBehind() : told.refusesWhom();
    }

    public int arrived(int steps) {
        if (noSuchStep(steps)) {
            return BAD;
        }
        freshen();
        return told.arrived[told.rowBehind(steps)];
    }

    public int knows(int rider, int what) {
        freshen();
        if (noSuchRider(rider) || what < 0 || what > 1) {
            return BAD;
        }
        return what == 0 ? told.known(rider) : byteOf(told.heard(), rider);
    }

    // ---- plans

    public int more(int i) {
        if (i < NONE || i >= MOST_MORE) {
            return BAD;
        }
        freshen();
        plans.findMore();
        return plans.foundMore(i);
    }

    public int leave(int rider, int leaver, int i) {
        freshen();
        if (noSuchRider(rider) || noSuchLeaver(leaver) || i < NONE || i >= MOST_MORE) {
            return BAD;
        }
        plans.findOut(rider, leaver);
        return plans.foundOut(i);
    }

    // ---- seen, chance, days

    public int seen(int steps, int heavy) {
        if (!sights.allowed(steps, heavy)) {
            return BAD;
        }
        return sights.add(steps, heavy) ? sights.size : FULL;
    }

    public int forget() {
        int had = sights.size;
        sights.size = 0;
        return had;
    }

    public int read(int s) {
        if (noSuchSheet(s)) {
            return BAD;
        }
        Sheet sheet = sheets[s];
        if (sheet.lost) {
            return find(NULL);
        }
        int taken = 0;
        for (int i = 0; i + 1 < sheet.size; i += 2) {
            int steps = sheet.items[i];
            int heavy = sheet.items[i + 1];
            if (!sights.allowed(steps, heavy) || !sights.add(steps, heavy)) {
                break;
            }
            taken++;
        }
        return taken;
    }

    public int never() {
        freshen();
        return guesses.neverLeft();
    }

    public int who(int leaver) {
        freshen();
        return noSuchLeaver(leaver) ? BAD : guesses.whoElse(leaver);
    }

    public int weigh() {
        freshen();
        return guesses.bestStep();
    }

    public long maybe(int c, int rider, int steps, int what) {
        freshen();
        if (c < 0 || c > SIXTEENTHS || noSuchRider(rider) || noSuchStep(steps) || what < 0 || what > 1) {
            return Long.MIN_VALUE - BAD;
        }
        chances.work(c, rider, steps);
        return what == 0 ? chances.above : chances.below;
    }

    public int day(int seed, int n, int what) {
        if (n < 1 || n > MOST_STOPS || what < 0 || what > 1) {
            return BAD;
        }
        freshen();
        trial.begin(house.allLeavers());
        int lot = seed;
        for (int i = 0; i < n; i++) {
            lot = 1103515245 * lot + 12345;
            trial.goTo((lot >>> 16) % FLOORS);
        }
        return what == 0 ? trial.howManyArrived() : trial.endsBehind();
    }

    // ---- sheets

    public int sheet(int s, int form, int n) {
        if (noSuchSheet(s) || noSuchForm(form) || n > ITEMS) {
            return BAD;
        }
        if (n < 0) {
            return find(SIZE);
        }
        sheets[s].make(form, n);
        return n;
    }

    public int lose(int s) {
        if (noSuchSheet(s)) {
            return BAD;
        }
        if (sheets[s].lost) {
            return find(NULL);
        }
        sheets[s].lost = true;
        return sheets[s].size;
    }

    public int put(int s, int form, int i, int v) {
        if (noSuchSheet(s) || noSuchForm(form)) {
            return BAD;
        }
        int refusal = sheets[s].refuses(form, i);
        if (refusal != 0) {
            return find(refusal);
        }
        sheets[s].store(i, v);
        return 1;
    }

    public int get(int s, int form, int i) {
        if (noSuchSheet(s) || noSuchForm(form)) {
            return Integer.MIN_VALUE;
        }
        int refusal = sheets[s].refuses(form, i);
        if (refusal != 0) {
            finding = refusal;
            return Integer.MIN_VALUE;
        }
        return sheets[s].items[i];
    }

    public int copy(int s, int i, int t, int j, int n) {
        if (noSuchSheet(s) || noSuchSheet(t)) {
            return BAD;
        }
        Sheet source = sheets[s];
        Sheet target = sheets[t];
        if (source.lost || target.lost) {
            return find(NULL);
        }
        if (source.form != target.form) {
            return find(STORE);
        }
        if (!source.holds(i, n) || !target.holds(j, n)) {
            return find(INDEX);
        }
        System.arraycopy(source.items, i, target.items, j, n);
        return 1;
    }

    public int write(int what, int s) {
        if (what < 0 || what >= LIFT_ANSWERS || noSuchSheet(s)) {
            return BAD;
        }
        Sheet sheet = sheets[s];
        if (sheet.lost) {
            return find(NULL);
        }
        freshen();
        for (int i = 0; i < sheet.size; i++) {
            sheet.store(i, told.tell(i, what));
        }
        return sheet.size;
    }

    public int count(int what) {
        if (what < 0 || what >= COUNTS) {
            return BAD;
        }
        freshen();
        switch (what) {
            case 0: return house.riders;
            case 1: return house.leavers;
            case 2: return house.stops;
            case 6: return told.howManyArrived();
            case 7: return sights.size;
            case 8: return finding;
            default: return texts[what - 3].length;
        }
    }

    public long digest() {
        long h = 17;
        for (int what = 0; what < DIGEST_COUNTS; what++) {
            h = mix(h, count(what));
        }
        for (int text = 0; text < TEXTS; text++) {
            h = mix(h, fault(text));
        }
        h = mixStops(mixLeavers(mixRiders(h)));
        h = mixSteps(h);
        h = mix(h, ends());
        h = mix(mix(h, full(0)), full(1));
        h = mix(mix(h, more(NONE)), more(0));
        h = mix(mix(h, never()), weigh());
        h = mix(mix(h, leave(0, 0, NONE)), leave(0, 0, 0));
        h = mix(mix(h, maybe(5, 0, 20, 0)), maybe(5, 0, 20, 1));
        return mix(mix(h, day(7, 12, 0)), day(7, 12, 1));
    }

    private static long mix(long h, long part) {
        return 31 * h + part;
    }

    private long mixRiders(long h) {
        for (int r = 0; r < house.riders; r++) {
            for (int what = 0; what < 3; what++) {
                h = mix(h, rider(r, what));
            }
            for (int what = 0; what < 3; what++) {
                h = mix(h, rides(r, what));
            }
            h = mix(mix(h, knows(r, 0)), knows(r, 1));
        }
        return h;
    }

    private long mixLeavers(long h) {
        for (int l = 0; l < house.leavers; l++) {
            h = mix(mix(h, leaver(l, 0)), leaver(l, 1));
            h = mix(h, who(l));
        }
        return h;
    }

    private long mixStops(long h) {
        for (int i = 0; i < house.stops; i++) {
            h = mix(h, stop(i));
        }
        return h;
    }

    private long mixSteps(long h) {
        for (int steps : DIGEST_STEPS) {
            for (int what = 0; what < LIFT_ANSWERS; what++) {
                h = mix(h, lift(steps, what));
            }
            h = mix(h, arrived(steps));
        }
        return h;
    }

    /** The rides are worked out only when one is asked for: texts come byte by byte. */
    private void freshen() {
        if (!stale) {
            return;
        }
        stale = false;
        house.takeRiders(texts[RIDERS]);
        house.takeLeavers(texts[LEAVERS]);
        house.takeStops(texts[STOPS]);
        told.begin(house.allLeavers());
        told.goToStops(NONE, NONE);
        plans.outdate();
        chances.outdate();
    }

    private int find(int number) {
        finding = number;
        return -10 - number;
    }

    private static boolean noSuchText(int text) {
        return text < 0 || text >= TEXTS;
    }

    private boolean noSuchRider(int rider) {
        return rider < 0 || rider >= house.riders;
    }

    private boolean noSuchLeaver(int leaver) {
        return leaver < 0 || leaver >= house.leavers;
    }

    private static boolean noSuchStep(int steps) {
        return steps < 0 || steps > LAST_STEP;
    }

    private static boolean noSuchSheet(int s) {
        return s < 0 || s >= SHEETS;
    }

    private static boolean noSuchForm(int form) {
        return form < 0 || form >= FORMS;
    }

    private static boolean has(int bits, int i) {
        return (bits >> i & 1) != 0;
    }

    private static int byteOf(long row, int i) {
        return (int) (row >>> 8 * i) & 255;
    }

    /** One of the three texts, as it was typed. */
    private static final class Text {
        final int kind;
        final int most;
        final int[] bytes = new int[LONG_TEXT];
        int length = 0;

        Text(int kind) {
            this.kind = kind;
            this.most = kind == STOPS ? MOST_STOPS : LONG_TEXT;
        }

        boolean append(int b) {
            if (length >= most || length >= bytes.length) {
                return false;
            }
            bytes[length] = b;
            length++;
            return true;
        }

        /** No text is long enough for a ninth part, so that a ninth needs no test here. */
        int firstFault() {
            for (int i = 0; i < length && i < bytes.length; i++) {
                if (!mayStand(i, bytes[i])) {
                    return i;
                }
            }
            boolean ended = kind == STOPS || length == 0 || length % 4 == 3;
            return ended ? NONE : length;
        }

        private boolean mayStand(int place, int b) {
            int part = place % 4;
            if (kind != STOPS && part == 3) {
                return b == ';';
            }
            int least = kind == RIDERS && part == 0 ? 1 : 0;
            int greatest = kind == LEAVERS && part == 2 ? MOST - 1 : 9;
            return b >= '0' + least && b <= '0' + greatest;
        }

        int parts() {
            if (firstFault() != NONE) {
                return 0;
            }
            return kind == STOPS ? length : (length + 1) / 4;
        }

        int figure(int place) {
            return place < 0 || place >= bytes.length ? 0 : bytes[place] - '0';
        }
    }

    /** What the texts and the settings say. */
    private static final class House {
        int half = 4;
        int limit = 20;
        int riders = 0;
        int leavers = 0;
        int stops = 0;
        /** Riders who are where they want to be from the start, as bits. */
        int home = 0;
        final int[] heavy = new int[MOST];
        final int[] from = new int[MOST];
        final int[] to = new int[MOST];
        final int[] leftAt = new int[MOST];
        final int[] whoLeft = new int[MOST];
        final int[] stopAt = new int[MOST_STOPS];
        final int[] startHere = new int[FLOORS];
        final int[] endHere = new int[FLOORS];

        void takeRiders(Text text) {
            riders = Math.min(text.parts(), MOST);
            home = 0;
            Arrays.fill(startHere, 0);
            Arrays.fill(endHere, 0);
            for (int r = 0; r < riders; r++) {
                heavy[r] = text.figure(4 * r);
                from[r] = text.figure(4 * r + 1);
                to[r] = text.figure(4 * r + 2);
                if (from[r] == to[r]) {
                    home |= 1 << r;
                }
                noteFloors(r);
            }
        }

        private void noteFloors(int r) {
            for (int floor = 0; floor < FLOORS; floor++) {
                if (from[r] == floor) {
                    startHere[floor] |= 1 << r;
                }
                if (to[r] == floor) {
                    endHere[floor] |= 1 << r;
                }
            }
        }

        void takeLeavers(Text text) {
            leavers = Math.min(text.parts(), MOST);
            for (int l = 0; l < leavers; l++) {
                leftAt[l] = 10 * text.figure(4 * l) + text.figure(4 * l + 1);
                whoLeft[l] = text.figure(4 * l + 2);
            }
        }

        void takeStops(Text text) {
            stops = Math.min(text.parts(), MOST_STOPS);
            for (int i = 0; i < stops; i++) {
                stopAt[i] = text.figure(i);
            }
        }

        int allLeavers() {
            return (1 << leavers) - 1;
        }
    }

    /**
     * A ride, as a row for its start and for each of its halts: between two halts nobody gets in
     * or out, and the lift goes evenly, so these rows tell all that is behind any number of steps.
     * The newest row is the state of the ride; to take rows away is to go back in time.
     */
    private static final class Ride {
        static final int ROWS = 1 + 2 * (MOST_STOPS + MOST_MORE);
        final House house;
        final int[] when = new int[ROWS];
        final int[] place = new int[ROWS];
        final int[] heavy = new int[ROWS];
        final int[] riders = new int[ROWS];
        final int[] absences = new int[ROWS];
        /** Absences that have got out at the street. */
        final int[] street = new int[ROWS];
        final int[] arrived = new int[ROWS];
        final int[] refused = new int[ROWS];
        /** At least 1 always: the start. */
        int rows = 1;
        /** Leavers, of which an absence comes at some step, as bits. */
        int left = 0;
        final int[] absenceHeavy = new int[MOST];

        Ride(House house) {
            this.house = house;
        }

        void begin(int leavers) {
            rows = 1;
            arrived[0] = house.home;
            left = 0;
            for (int l = 0; l < house.leavers; l++) {
                if (has(leavers, l)) {
                    leavesAs(l, house.whoLeft[l]);
                }
            }
        }

        void leavesAs(int leaver, int rider) {
            if (leaver < 0 || leaver >= MOST) {
                return;
            }
            left &= ~(1 << leaver);
            if (rider >= 0 && rider < house.riders) {
                left |= 1 << leaver;
                absenceHeavy[leaver] = house.heavy[rider] / 2;
            }
        }

        void goToStops(int leftOut, int leftOutToo) {
            for (int i = 0; i < house.stops; i++) {
                if (i != leftOut && i != leftOutToo) {
                    goTo(house.stopAt[i]);
                }
            }
        }

        void goTo(int stop) {
            if (stop < 0 || stop >= FLOORS || rows + 2 > ROWS) {
                return;
            }
            int start = rows - 1;
            int floor = place[start] / 2;
            int steps = when[start] + Math.abs(stop - floor);
            addRow(steps + passHalf(floor, stop) + 1, 2 * stop);
            letOut(stop);
            letIn(stop);
        }

        /** Tells how many steps longer the way is for it. */
        private int passHalf(int floor, int stop) {
            int half = house.half;
            boolean up = floor <= half && half < stop;
            boolean down = stop <= half && half < floor;
            if (!up && !down) {
                return 0;
            }
            int steps = when[rows - 1] + (up ? half - floor : floor - half - 1);
            int waiting = waitingBy(steps);
            if (waiting == 0) {
                return 0;
            }
            addRow(steps + 1, 2 * half + 1);
            letAbsencesIn(waiting);
            return 1;
        }

        private int waitingBy(int steps) {
            int bits = left & ~(absences[rows - 1] | street[rows - 1]);
            for (int l = 0; l < house.leavers && bits != 0; l++) {
                if (house.leftAt[l] > steps) {
                    bits &= ~(1 << l);
                }
            }
            return bits;
        }

        private void letAbsencesIn(int waiting) {
            int row = rows - 1;
            for (int l = 0; l < house.leavers; l++) {
                if ((waiting >> l & 1) != 0 && heavy[row] + absenceHeavy[l] <= house.limit) {
                    absences[row] |= 1 << l;
                    heavy[row] += absenceHeavy[l];
                }
            }
        }

        private void letOut(int floor) {
            int row = rows - 1;
            int out = riders[row] & house.endHere[floor];
            int gone = floor == 0 ? absences[row] : 0;
            if (out == 0 && gone == 0) {
                return;
            }
            for (int i = 0; i < MOST; i++) {
                heavy[row] -= (has(out, i) ? house.heavy[i] : 0) + (has(gone, i) ? absenceHeavy[i] : 0);
            }
            riders[row] &= ~out;
            arrived[row] |= out;
            absences[row] &= ~gone;
            street[row] |= gone;
        }

        private void letIn(int floor) {
            int row = rows - 1;
            int waiting = house.startHere[floor] & ~(riders[row] | arrived[row]);
            if (waiting == 0) {
                return;
            }
            for (int r = 0; r < house.riders; r++) {
                if (!has(waiting, r)) {
                    continue;
                }
                if (heavy[row] + house.heavy[r] <= house.limit) {
                    riders[row] |= 1 << r;
                    heavy[row] += house.heavy[r];
                } else {
                    refused[row] |= 1 << r;
                }
            }
        }

        /** Whoever adds rows has seen that there is room for them. */
        private void addRow(int steps, int where) {
            int row = rows;
            int last = rows - 1;
            when[row] = steps;
            place[row] = where;
            heavy[row] = heavy[last];
            riders[row] = riders[last];
            absences[row] = absences[last];
            street[row] = street[last];
            arrived[row] = arrived[last];
            refused[row] = 0;
            rows++;
        }

        int rowBehind(int steps) {
            for (int row = rows - 1; row > 0; row--) {
                if (when[row] <= steps) {
                    return row;
                }
            }
            return 0;
        }

        int tell(int steps, int what) {
            int row = rowBehind(steps);
            switch (what) {
                case 0: return placeBehind(steps, row);
                case 1: return heavy[row];
                case 2: return riders[row];
                default: return absences[row];
            }
        }

        private int placeBehind(int steps, int row) {
            int gone = steps - when[row];
            if (gone == 0 || row + 1 >= rows) {
                return place[row];
            }
            int way = place[row + 1] > place[row] ? 1 : -1;
            // From between two floors the first step is only half as long.
            int first = place[row] % 2 == 0 ? 2 : 1;
            return place[row] + way * (first + 2 * (gone - 1));
        }

        int endsBehind() {
            return when[rows - 1];
        }

        int howManyArrived() {
            return Integer.bitCount(arrived[rows - 1]);
        }

        boolean allArrived() {
            return howManyArrived() == house.riders;
        }

        int getsInBehind(int rider) {
            for (int row = 0; row < rows; row++) {
                if (has(riders[row], rider)) {
                    return when[row];
                }
            }
            return NONE;
        }

        int arrivesBehind(int rider) {
            for (int row = 0; row < rows; row++) {
                if (has(arrived[row], rider)) {
                    return when[row];
                }
            }
            return NONE;
        }

        int timesRefused(int rider) {
            int times = 0;
            for (int row = 0; row < rows; row++) {
                times += refused[row] >> rider & 1;
            }
            return times;
        }

        private int refusesInRow() {
            for (int row = 0; row < rows; row++) {
                if (refused[row] != 0) {
                    return row;
                }
            }
            return NONE;
        }

        int refusesBehind() {
            int row = refusesInRow();
            return row < 0 ? NONE : when[row];
        }

        int refusesWhom() {
            int row = refusesInRow();
            for (int r = 0; row >= 0 && r < MOST; r++) {
                if (has(refused[row], r)) {
                    return r;
                }
            }
            return NONE;
        }

        int known(int rider) {
            int bits = 0;
            for (int row = 0; row < rows; row++) {
                if (has(riders[row], rider)) {
                    bits |= absences[row];
                }
            }
            return bits;
        }

        /** Of which leavers each rider hears: eight bits for each, rider 0 lowest. */
        long heard() {
            long all = 0;
            for (int row = 0; row < rows; row++) {
                if (riders[row] != 0) {
                    all = share(all, riders[row], absences[row]);
                }
            }
            return all;
        }

        /** All that ride together ride with one another, so one round tells all to all. */
        private static long share(long all, int together, int bits) {
            int told = bits;
            for (int r = 0; r < MOST; r++) {
                if (has(together, r)) {
                    told |= byteOf(all, r);
                }
            }
            long shared = all;
            for (int r = 0; r < MOST; r++) {
                if (has(together, r)) {
                    shared |= (long) told << 8 * r;
                }
            }
            return shared;
        }
    }

    /** Stops more, and stops left out. */
    private static final class Plans {
        static final int WAYS = 1 + MOST_STOPS + MOST_STOPS * (MOST_STOPS - 1) / 2;
        final House house;
        final Ride ride;
        boolean moreFound = false;
        final int[] more = new int[1 + MOST_MORE];
        final int[] out = new int[1 + MOST_MORE];
        /** What all hear, for each way to leave stops out that has been tried. */
        final long[] heard = new long[WAYS];
        int tried = 0;

        Plans(House house, Ride ride) {
            this.house = house;
            this.ride = ride;
        }

        void outdate() {
            moreFound = false;
            tried = 0;
        }

        int foundMore(int i) {
            return i < NONE || i >= MOST_MORE ? NONE : more[1 + i];
        }

        int foundOut(int i) {
            return i < NONE || i >= MOST_MORE ? NONE : out[1 + i];
        }

        private static void note(int[] row, int howMany, int first, int second) {
            row[0] = howMany;
            row[1] = first;
            row[2] = second;
        }

        void findMore() {
            if (moreFound) {
                return;
            }
            moreFound = true;
            note(more, NONE, NONE, NONE);
            ride.begin(house.allLeavers());
            ride.goToStops(NONE, NONE);
            if (ride.allArrived()) {
                note(more, 0, NONE, NONE);
                return;
            }
            int asTold = ride.rows;
            for (int a = 0; a < FLOORS; a++) {
                ride.rows = asTold;
                ride.goTo(a);
                if (ride.allArrived()) {
                    note(more, 1, a, NONE);
                    return;
                }
            }
            findTwoMore(asTold);
        }

        private void findTwoMore(int asTold) {
            for (int a = 0; a < FLOORS; a++) {
                ride.rows = asTold;
                ride.goTo(a);
                int oneMore = ride.rows;
                for (int b = 0; b < FLOORS; b++) {
                    ride.rows = oneMore;
                    ride.goTo(b);
                    if (ride.allArrived()) {
                        note(more, 2, a, b);
                        return;
                    }
                }
            }
        }

        void findOut(int rider, int leaver) {
            note(out, NONE, NONE, NONE);
            int bit = 8 * rider + leaver;
            if (silent(0, bit, NONE, NONE)) {
                note(out, 0, NONE, NONE);
                return;
            }
            int way = 1;
            for (int i = 0; i < house.stops; i++) {
                if (silent(way, bit, i, NONE)) {
                    note(out, 1, i, NONE);
                    return;
                }
                way++;
            }
            for (int i = 0; i < house.stops; i++) {
                for (int j = i + 1; j < house.stops; j++) {
                    if (silent(way, bit, i, j)) {
                        note(out, 2, i, j);
                        return;
                    }
                    way++;
                }
            }
        }

        /** The ways are asked for in one order always, so what has been tried is a row of first ones. */
        private boolean silent(int way, int bit, int i, int j) {
            if (way < 0 || way >= WAYS) {
                return false;
            }
            if (way >= tried) {
                ride.begin(house.allLeavers());
                ride.goToStops(i, j);
                heard[way] = ride.heard();
                tried = way + 1;
            }
            return (heard[way] >>> bit & 1) == 0;
        }
    }

    /** What was seen: behind how many steps all that rode were how heavy. */
    private static final class Sights {
        int size = 0;
        final int[] steps = new int[MOST];
        final int[] heavy = new int[MOST];

        boolean allowed(int behind, int weighed) {
            return !noSuchStep(behind) && weighed >= 0 && weighed <= MOST_HEAVY;
        }

        boolean add(int behind, int weighed) {
            if (size >= MOST) {
                return false;
            }
            steps[size] = behind;
            heavy[size] = weighed;
            size++;
            return true;
        }

        boolean comeOut(Ride ride) {
            for (int i = 0; i < size; i++) {
                if (ride.heavy[ride.rowBehind(steps[i])] != heavy[i]) {
                    return false;
                }
            }
            return true;
        }
    }

    /** Who had left, by what was seen. */
    private static final class Guesses {
        final House house;
        final Ride ride;
        final Sights sights;
        /** How heavy all are behind each step, a row for each leaver who perhaps never left. */
        final int[] weights = new int[MOST * WEIGHED_STEPS];

        Guesses(House house, Ride ride, Sights sights) {
            this.house = house;
            this.ride = ride;
            this.sights = sights;
        }

        int neverLeft() {
            int bits = 0;
            for (int l = 0; l < house.leavers; l++) {
                if (fitsWithout(l)) {
                    bits |= 1 << l;
                }
            }
            return bits;
        }

        private boolean fitsWithout(int leaver) {
            ride.begin(house.allLeavers() & ~(1 << leaver));
            ride.goToStops(NONE, NONE);
            return sights.comeOut(ride);
        }

        int whoElse(int leaver) {
            int bits = 0;
            for (int r = 0; r < house.riders; r++) {
                ride.begin(house.allLeavers());
                ride.leavesAs(leaver, r);
                ride.goToStops(NONE, NONE);
                if (sights.comeOut(ride)) {
                    bits |= 1 << r;
                }
            }
            return bits;
        }

        int bestStep() {
            int guesses = 0;
            for (int l = 0; l < house.leavers; l++) {
                if (fitsWithout(l)) {
                    noteWeights(guesses);
                    guesses++;
                }
            }
            int best = 0;
            int least = MOST + 1;
            for (int steps = 0; steps < WEIGHED_STEPS; steps++) {
                int alike = mostAlike(guesses, steps);
                if (alike < least) {
                    least = alike;
                    best = steps;
                }
            }
            return best;
        }

        private void noteWeights(int guess) {
            if (guess < 0 || guess >= MOST) {
                return;
            }
            int row = 0;
            for (int steps = 0; steps < WEIGHED_STEPS; steps++) {
                // Halts are a step apart at least, so no step skips a row.
                if (row + 1 < ride.rows && ride.when[row + 1] <= steps) {
                    row++;
                }
                weights[guess * WEIGHED_STEPS + steps] = ride.heavy[row];
            }
        }

        private int mostAlike(int guesses, int steps) {
            int most = 0;
            for (int a = 0; a < guesses && a < MOST; a++) {
                int alike = 0;
                for (int b = 0; b < guesses && b < MOST; b++) {
                    if (weights[a * WEIGHED_STEPS + steps] == weights[b * WEIGHED_STEPS + steps]) {
                        alike++;
                    }
                }
                most = Math.max(most, alike);
            }
            return most;
        }
    }

    /** Leavers by chance. */
    private static final class Chances {
        /** No ride of 20 stops is so long. */
        static final int NEVER = 255;
        final House house;
        final Ride ride;
        boolean ridden = false;
        /** When each rider arrives, eight bits for each, for each set of those who leave. */
        final long[] arrivals = new long[1 << MOST];
        long above = 0;
        long below = 1;

        Chances(House house, Ride ride) {
            this.house = house;
            this.ride = ride;
        }

        void outdate() {
            ridden = false;
        }

        void work(int c, int rider, int steps) {
            rideAll();
            above = 0;
            for (int set = 0; set < 1 << house.leavers && set < arrivals.length; set++) {
                int behind = byteOf(arrivals[set], rider);
                if (behind != NEVER && behind <= steps) {
                    above += weightOf(set, c);
                }
            }
            below = 1L << 4 * house.leavers;
            shorten();
        }

        private void rideAll() {
            if (ridden) {
                return;
            }
            ridden = true;
            for (int set = 0; set < 1 << house.leavers && set < arrivals.length; set++) {
                ride.begin(set);
                ride.goToStops(NONE, NONE);
                long row = 0;
                for (int r = 0; r < house.riders; r++) {
                    int behind = ride.arrivesBehind(r);
                    row |= (long) (behind == NONE ? NEVER : behind) << 8 * r;
                }
                arrivals[set] = row;
            }
        }

        private long weightOf(int set, int c) {
            long weight = 1;
            for (int l = 0; l < house.leavers; l++) {
                weight *= has(set, l) ? c : SIXTEENTHS - c;
            }
            return weight;
        }

        /** Below is a power of two, so nothing but two divides both. */
        private void shorten() {
            if (above == 0) {
                below = 1;
            }
            for (int i = 0; i < 4 * MOST && below > 1 && above % 2 == 0; i++) {
                above /= 2;
                below /= 2;
            }
        }
    }

    /** A row of items, each narrowed to the form of the row. */
    private static final class Sheet {
        boolean lost = true;
        int form = 0;
        int size = 0;
        final int[] items = new int[ITEMS];

        void make(int newForm, int n) {
            lost = false;
            form = newForm;
            size = Math.max(0, Math.min(n, ITEMS));
            Arrays.fill(items, 0);
        }

        /** The number of the finding by which item i, as of a form, is refused; 0 if it is not. */
        int refuses(int asForm, int i) {
            if (lost) {
                return NULL;
            }
            if (form != asForm) {
                return CAST;
            }
            return i < 0 || i >= size ? INDEX : 0;
        }

        boolean holds(int i, int n) {
            return i >= 0 && n >= 0 && n <= size - i;
        }

        void store(int i, int v) {
            if (i < 0 || i >= size) {
                return;
            }
            items[i] = form == 0 ? (byte) v : form == 1 ? (short) v : v;
        }
    }
}
