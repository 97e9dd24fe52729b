import java.util.ArrayList;
import java.util.List;

/**
 * Each refusal, alone and where two fit at once: what it answers, and that it changes nothing. Every
 * refused call is made on an object whose twin is spared it; then both are asked for all they know.
 */
public final class RefusalsTest {
    private static final int BAD = -2, NOT = -3, FULL = -4;
    private static final int NULL = 1, INDEX = 2, CAST = 3, STORE = 4, SIZE = 5;
    private static final int LOW = Integer.MIN_VALUE, HIGH = Integer.MAX_VALUE;
    private static final long LONG_BAD = Long.MIN_VALUE + 2;
    private static final int MOST_CALLS = 512;
    private static int wrong = 0;
    private static int asked = 0;

    private interface Call {
        long on(LeaversFloor x);
    }

    /** A way to make an object; forms and sizes are of its sheets, size -1 is LOST. */
    private abstract static class Scene {
        final int[] forms;
        final int[] sizes;

        Scene(int[] forms, int[] sizes) {
            this.forms = forms;
            this.sizes = sizes;
        }

        abstract void set(LeaversFloor x);

        /** With a FINDING ahead, so that one that is told wrongly, or forgotten, shows. */
        LeaversFloor make(int findingAhead) {
            LeaversFloor x = new LeaversFloor();
            set(x);
            if (findingAhead == SIZE) {
                x.sheet(0, 0, -1);
            } else if (findingAhead == INDEX) {
                x.sheet(3, 0, 0);
                x.get(3, 0, 0);
                if (sizes[3] == -1) {
                    x.lose(3);
                }
            }
            return x;
        }
    }

    private static final class Bare extends Scene {
        Bare() {
            super(new int[4], new int[] {-1, -1, -1, -1});
        }

        void set(LeaversFloor x) {
        }
    }

    /** Some of everything; the last sheet is lost. */
    private static final class Busy extends Scene {
        Busy() {
            super(new int[] {0, 1, 2, 0}, new int[] {3, 2, 4, -1});
        }

        void set(LeaversFloor x) {
            say(x, 0, "503;202;399");
            say(x, 1, "000;001;997");
            say(x, 2, "0305");
            x.set(0, 0);
            x.set(1, 30);
            x.seen(2, 8);
            x.seen(1, 7);
            fill(x, 0, 0, 1, 2, 3);
            fill(x, 1, 1, 300, -300);
            fill(x, 2, 2, 3, 0, 255, 999);
        }
    }

    /** As much of everything as there may be. */
    private static final class Brim extends Scene {
        Brim() {
            super(new int[] {0, 1, 2, 0}, new int[] {60, 1, 0, 0});
        }

        void set(LeaversFloor x) {
            say(x, 0, "408;690;381;717;252;930;164;848");
            say(x, 1, "030;051;202;103;404;605;006;157");
            say(x, 2, "98017640305928170406");
            x.set(0, 8);
            x.set(1, 60);
            for (int n = 0; n < 8; n++) {
                x.seen(n, 0);
            }
            x.sheet(0, 0, 60);
            x.write(0, 0);
            fill(x, 1, 1, 32767);
            x.sheet(2, 2, 0);
            x.sheet(3, 0, 0);
        }
    }

    private static final Scene BARE = new Bare(), BUSY = new Busy(), BRIM = new Brim();
    private static final Scene[] ALL = {BARE, BUSY, BRIM};

    private static void say(LeaversFloor x, int text, String bytes) {
        for (char b : bytes.toCharArray()) {
            x.type(text, b);
        }
    }

    private static void fill(LeaversFloor x, int s, int form, int... items) {
        x.sheet(s, form, items.length);
        for (int i = 0; i < items.length; i++) {
            x.put(s, form, i, items[i]);
        }
    }

    /** All that an object knows, but for count() 8; the last questions take things from it. */
    private static List<Long> all(LeaversFloor x, Scene scene) {
        List<Long> told = new ArrayList<>();
        for (int what = 0; what < 8; what++) {
            told.add((long) x.count(what));
        }
        told.add(x.digest());
        for (int r = 0; r < 8; r++) {
            for (int what = 0; what < 3; what++) {
                told.add((long) x.rider(r, what));
            }
            told.add((long) x.leaver(r, 0));
            told.add((long) x.leaver(r, 1));
            told.add((long) x.who(r));
        }
        for (int i = 0; i < 20; i++) {
            told.add((long) x.stop(i));
        }
        for (int t = 0; t < 12; t++) {
            told.add((long) x.lift(t, 0));
            told.add((long) x.lift(t, 1));
        }
        for (int s = 0; s < 4; s++) {
            for (int i = 0; i <= scene.sizes[s]; i++) {
                told.add((long) x.get(s, scene.forms[s], i));
            }
        }
        taken(x, told);
        return told;
    }

    private static void taken(LeaversFloor x, List<Long> told) {
        told.add((long) x.set(0, 3));
        told.add((long) x.set(1, 17));
        told.add((long) x.never());
        told.add((long) x.weigh());
        told.add((long) x.forget());
        told.add((long) x.never());
        for (int s = 0; s < 4; s++) {
            told.add((long) x.lose(s));
        }
        for (int text = 0; text < 3; text++) {
            told.add((long) x.undo(text));
            told.add((long) x.fault(text));
            told.add((long) x.wipe(text));
        }
    }

    private static void due(String what, long got, long want) {
        asked++;
        if (got != want) {
            wrong++;
            if (wrong < 60) {
                System.out.println(what + " answered " + got + ", due is " + want);
            }
        }
    }

    private static void refused(Scene scene, String name, Call call, long answer, int finding) {
        for (int ahead : new int[] {0, SIZE, INDEX}) {
            LeaversFloor spared = scene.make(ahead);
            LeaversFloor x = scene.make(ahead);
            String what = name + " of " + scene.getClass().getSimpleName() + " with FINDING " + ahead;
            due(what, call.on(x), answer);
            due(what + ", the latest FINDING", x.count(8), finding == 0 ? ahead : finding);
            due(what + ", again", call.on(x), answer);
            List<Long> want = all(spared, scene);
            List<Long> got = all(x, scene);
            due(what + ", how much is told", got.size(), want.size());
            for (int i = 0; i < want.size(); i++) {
                due(what + ", changed nothing, " + i, got.get(i), want.get(i));
            }
            // Three texts, settings and sheets of the fullest scene take some 110 calls.
            due(what + ", within the calls of an object", 110 + 3 + want.size() <= MOST_CALLS ? 1 : 0, 1);
        }
    }

    private static void bad(String name, Call call) {
        for (Scene scene : ALL) {
            refused(scene, name, call, BAD, 0);
        }
    }

    private static void found(Scene scene, String name, Call call, int finding) {
        refused(scene, name, call, -10 - finding, finding);
    }

    /** Just outside a range on both sides, and as far outside as there is. */
    private static int[] outside(int least, int greatest) {
        return new int[] {least - 1, greatest + 1, LOW, HIGH};
    }

    // ---- riders, leavers, stops

    private static void texts() {
        for (int text : outside(0, 2)) {
            bad("type of text " + text, x -> x.type(text, 48));
            bad("type of text " + text + " and byte 256", x -> x.type(text, 256));
            bad("wipe " + text, x -> x.wipe(text));
            bad("undo " + text, x -> x.undo(text));
            bad("fault " + text, x -> x.fault(text));
        }
        for (int text = 0; text < 3; text++) {
            int one = text;
            for (int b : outside(0, 255)) {
                // In the fullest scene FULL fits, too; BAD is ahead of it.
                bad("type of " + one + " byte " + b, x -> x.type(one, b));
            }
            for (int b : new int[] {0, 48, 59, 255}) {
                refused(BRIM, "type of " + one + " byte " + b, x -> x.type(one, b), FULL, 0);
            }
            refused(BARE, "undo of " + one, x -> x.undo(one), NOT, 0);
        }
    }

    private static void parts() {
        for (int what : outside(0, 2)) {
            bad("rider what " + what, x -> x.rider(0, what));
            bad("no rider what " + what, x -> x.rider(8, what));
        }
        for (int what : outside(0, 1)) {
            bad("leaver what " + what, x -> x.leaver(0, what));
            bad("set what " + what, x -> x.set(what, 5));
        }
        for (int r : outside(0, 7)) {
            bad("rider " + r, x -> x.rider(r, 0));
            bad("leaver " + r, x -> x.leaver(r, 0));
        }
        bad("stop 20", x -> x.stop(20));
        bad("stop -1", x -> x.stop(-1));
        bad("stop, far above", x -> x.stop(HIGH));
        bad("stop, far below", x -> x.stop(LOW));
        for (int v : outside(0, 8)) {
            bad("HALF " + v, x -> x.set(0, v));
        }
        for (int v : outside(1, 60)) {
            bad("LIMIT " + v, x -> x.set(1, v));
        }
        refused(BUSY, "rider 3 of 3", x -> x.rider(3, 0), BAD, 0);
        refused(BUSY, "leaver 3 of 3", x -> x.leaver(3, 0), BAD, 0);
        refused(BARE, "rider 0 of none", x -> x.rider(0, 0), BAD, 0);
        refused(BARE, "leaver 0 of none", x -> x.leaver(0, 0), BAD, 0);
    }

    // ---- rides, plans

    private static void rides() {
        for (int steps : outside(0, 255)) {
            bad("lift behind " + steps, x -> x.lift(steps, 0));
            bad("arrived behind " + steps, x -> x.arrived(steps));
        }
        for (int what : outside(0, 3)) {
            bad("lift what " + what, x -> x.lift(0, what));
        }
        for (int what : outside(0, 2)) {
            bad("rides what " + what, x -> x.rides(0, what));
        }
        for (int what : outside(0, 1)) {
            bad("full what " + what, x -> x.full(what));
            bad("knows what " + what, x -> x.knows(0, what));
        }
        for (int r : outside(0, 7)) {
            bad("rides of " + r, x -> x.rides(r, 0));
            bad("knows of " + r, x -> x.knows(r, 0));
            bad("leave for " + r, x -> x.leave(r, 0, -1));
            bad("leave of " + r, x -> x.leave(0, r, -1));
        }
        for (int i : outside(-1, 1)) {
            bad("more " + i, x -> x.more(i));
            bad("leave " + i, x -> x.leave(0, 0, i));
        }
        refused(BUSY, "rides 3 of 3", x -> x.rides(3, 0), BAD, 0);
        refused(BUSY, "knows 3 of 3", x -> x.knows(3, 0), BAD, 0);
        refused(BUSY, "leave for 3 of 3", x -> x.leave(3, 0, -1), BAD, 0);
        refused(BUSY, "leave of 3 of 3", x -> x.leave(0, 3, -1), BAD, 0);
        refused(BARE, "rides of none", x -> x.rides(0, 0), BAD, 0);
        refused(BARE, "knows of none", x -> x.knows(0, 0), BAD, 0);
        refused(BARE, "leave of none", x -> x.leave(0, 0, -1), BAD, 0);
    }

    // ---- seen, chance, days

    private static void guesses() {
        for (int steps : outside(0, 255)) {
            bad("seen behind " + steps, x -> x.seen(steps, 0));
        }
        for (int heavy : outside(0, 999)) {
            bad("seen so heavy: " + heavy, x -> x.seen(0, heavy));
        }
        refused(BRIM, "a ninth", x -> x.seen(0, 0), FULL, 0);
        refused(BRIM, "a ninth at the end", x -> x.seen(255, 999), FULL, 0);
        for (int s : outside(0, 3)) {
            bad("read " + s, x -> x.read(s));
        }
        for (int s = 0; s < 4; s++) {
            int one = s;
            found(BARE, "read of a lost one " + one, x -> x.read(one), NULL);
        }
        found(BUSY, "read of the lost one", x -> x.read(3), NULL);
        for (int l : outside(0, 7)) {
            bad("who " + l, x -> x.who(l));
        }
        refused(BUSY, "who 3 of 3", x -> x.who(3), BAD, 0);
        refused(BARE, "who of none", x -> x.who(0), BAD, 0);
        for (int n : outside(1, 20)) {
            bad("day of " + n, x -> x.day(7, n, 0));
        }
        for (int what : outside(0, 1)) {
            bad("day what " + what, x -> x.day(7, 12, what));
        }
    }

    private static void longBad(String name, Call call) {
        for (Scene scene : ALL) {
            refused(scene, name, call, LONG_BAD, 0);
        }
    }

    private static void chances() {
        for (int c : outside(0, 16)) {
            longBad("maybe by " + c, x -> x.maybe(c, 0, 20, 0));
        }
        for (int r : outside(0, 7)) {
            longBad("maybe of " + r, x -> x.maybe(5, r, 20, 0));
        }
        for (int steps : outside(0, 255)) {
            longBad("maybe behind " + steps, x -> x.maybe(5, 0, steps, 0));
        }
        for (int what : outside(0, 1)) {
            longBad("maybe what " + what, x -> x.maybe(5, 0, 20, what));
        }
        refused(BUSY, "maybe 3 of 3", x -> x.maybe(5, 3, 20, 1), LONG_BAD, 0);
        refused(BARE, "maybe of none, above", x -> x.maybe(5, 0, 20, 0), LONG_BAD, 0);
        refused(BARE, "maybe of none, below", x -> x.maybe(5, 0, 20, 1), LONG_BAD, 0);
    }

    // ---- sheets

    private static void makingSheets() {
        for (int s : outside(0, 3)) {
            bad("sheet " + s, x -> x.sheet(s, 0, 5));
            bad("sheet " + s + ", SIZE fits, too", x -> x.sheet(s, 0, -1));
            bad("lose " + s, x -> x.lose(s));
        }
        for (int form : outside(0, 2)) {
            bad("sheet of form " + form, x -> x.sheet(0, form, 5));
            bad("sheet of form " + form + ", SIZE fits, too", x -> x.sheet(0, form, -1));
        }
        bad("sheet of 61", x -> x.sheet(0, 0, 61));
        bad("sheet of as many as there are", x -> x.sheet(0, 0, HIGH));
        for (Scene scene : ALL) {
            for (int s = 0; s < 4; s++) {
                int one = s;
                found(scene, "sheet " + one + " of -1", x -> x.sheet(one, 2, -1), SIZE);
            }
            found(scene, "sheet of the least", x -> x.sheet(0, 0, LOW), SIZE);
        }
        for (int s = 0; s < 4; s++) {
            int one = s;
            found(BARE, "lose a lost one " + one, x -> x.lose(one), NULL);
        }
        found(BUSY, "lose the lost one", x -> x.lose(3), NULL);
    }

    /** put and get are refused alike, but for what they answer. */
    private static void item(Scene scene, String name, int s, int form, int i, int finding) {
        refused(scene, "put " + name, x -> x.put(s, form, i, 77), finding == 0 ? BAD : -10 - finding, finding);
        refused(scene, "get " + name, x -> x.get(s, form, i), LOW, finding);
    }

    private static void items() {
        for (Scene scene : ALL) {
            for (int s : outside(0, 3)) {
                item(scene, "of sheet " + s, s, 0, 0, 0);
                item(scene, "of sheet " + s + ", INDEX fits, too", s, 0, -1, 0);
            }
            for (int form : outside(0, 2)) {
                item(scene, "as form " + form, 0, form, 0, 0);
                item(scene, "as form " + form + ", all others fit, too", 3, form, -1, 0);
            }
        }
        for (int s = 0; s < 4; s++) {
            item(BARE, "of a lost one " + s, s, 0, 0, NULL);
        }
        item(BUSY, "of a lost one", 3, 0, 0, NULL);
        item(BUSY, "of a lost one, CAST fits, too", 3, 2, 0, NULL);
        item(BUSY, "of a lost one, INDEX fits, too", 3, 0, -1, NULL);
        int[] sizes = {3, 2, 4};
        for (int s = 0; s < 3; s++) {
            for (int form = 0; form < 3; form++) {
                if (form != s) {
                    item(BUSY, "of " + s + " as " + form, s, form, 0, CAST);
                    item(BUSY, "of " + s + " as " + form + ", INDEX fits, too", s, form, -1, CAST);
                    item(BUSY, "of " + s + " as " + form + ", INDEX fits above, too", s, form, 60, CAST);
                }
            }
            for (int i : outside(0, sizes[s] - 1)) {
                item(BUSY, i + " of " + s, s, s, i, INDEX);
            }
        }
        for (int i : outside(0, 59)) {
            item(BRIM, i + " of sixty", 0, 0, i, INDEX);
        }
        for (int i : outside(0, 0)) {
            item(BRIM, i + " of one", 1, 1, i, INDEX);
        }
        item(BRIM, "0 of none", 2, 2, 0, INDEX);
        item(BRIM, "-1 of none", 2, 2, -1, INDEX);
        item(BRIM, "0 of none, CAST fits, too", 2, 1, 0, CAST);
    }

    private static void copies() {
        for (int s : outside(0, 3)) {
            // All sheets are lost in one scene, and one in another, so NULL fits, too.
            bad("copy from " + s, x -> x.copy(s, 0, 3, 0, 0));
            bad("copy to " + s, x -> x.copy(3, 0, s, 0, 0));
            bad("copy from " + s + ", INDEX fits, too", x -> x.copy(s, -1, 0, -1, -1));
            bad("copy from and to " + s, x -> x.copy(s, 0, s, 0, 0));
        }
        found(BARE, "copy of lost ones", x -> x.copy(0, 0, 1, 0, 0), NULL);
        found(BARE, "copy of a lost one to itself", x -> x.copy(2, 0, 2, 0, 0), NULL);
        for (int s = 0; s < 3; s++) {
            int one = s;
            found(BUSY, "copy from the lost one to " + one, x -> x.copy(3, 0, one, 0, 0), NULL);
            found(BUSY, "copy to the lost one from " + one, x -> x.copy(one, 0, 3, 0, 0), NULL);
            found(BUSY, "INDEX fits, too, from " + one, x -> x.copy(one, -1, 3, -1, -1), NULL);
            found(BUSY, "INDEX fits, too, to " + one, x -> x.copy(3, -1, one, -1, -1), NULL);
            found(BUSY, "unlike from " + one, x -> x.copy(one, 0, (one + 1) % 3, 0, 1), STORE);
            found(BUSY, "unlike from " + one + ", none of them", x -> x.copy(one, 0, (one + 1) % 3, 0, 0), STORE);
            found(BUSY, "unlike from " + one + ", INDEX fits, too", x -> x.copy(one, -1, (one + 1) % 3, 9, 9), STORE);
        }
        for (int n : new int[] {4, -1, LOW, HIGH}) {
            found(BUSY, n + " of three", x -> x.copy(0, 0, 0, 0, n), INDEX);
        }
        for (int i : new int[] {-1, 2, 3, 4, LOW, HIGH}) {
            found(BUSY, "two from " + i + " of three", x -> x.copy(0, i, 0, 0, 2), INDEX);
            found(BUSY, "two to " + i + " of three", x -> x.copy(0, 0, 0, i, 2), INDEX);
        }
        for (int i : new int[] {-1, 4, LOW, HIGH}) {
            found(BUSY, "none from " + i + " of three", x -> x.copy(0, i, 0, 0, 0), INDEX);
            found(BUSY, "none to " + i + " of three", x -> x.copy(0, 0, 0, i, 0), INDEX);
        }
        found(BRIM, "one to none", x -> x.copy(0, 0, 3, 0, 1), INDEX);
        found(BRIM, "one from none", x -> x.copy(3, 0, 0, 0, 1), INDEX);
        found(BRIM, "61 of 60", x -> x.copy(0, 0, 0, 0, 61), INDEX);
    }

    private static void others() {
        for (int what : outside(0, 3)) {
            bad("write what " + what, x -> x.write(what, 0));
            bad("write what " + what + ", NULL fits in two scenes", x -> x.write(what, 3));
        }
        for (int s : outside(0, 3)) {
            bad("write to " + s, x -> x.write(0, s));
        }
        for (int what = 0; what < 4; what++) {
            int one = what;
            found(BARE, "write " + one + " to a lost one", x -> x.write(one, one), NULL);
            found(BUSY, "write " + one + " to the lost one", x -> x.write(one, 3), NULL);
        }
        for (int what : outside(0, 8)) {
            bad("count " + what, x -> x.count(what));
        }
    }

    public static void main(String[] args) {
        texts();
        parts();
        rides();
        guesses();
        chances();
        makingSheets();
        items();
        copies();
        others();
        System.out.println(asked + " answers about refusals, " + wrong + " wrong");
        if (wrong != 0) {
            System.exit(1);
        }
    }
}
