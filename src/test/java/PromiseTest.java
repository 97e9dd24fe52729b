/** The promises one by one, by answers worked out by hand: ordinary inputs, edges, wrong inputs. */
public final class PromiseTest {
    private static final int NONE = -1, BAD = -2, NOT = -3, FULL = -4;
    private static final int NULL = -11, INDEX = -12, CAST = -13, STORE = -14, SIZE = -15;
    private static final int LEAST = Integer.MIN_VALUE;
    private static final long LONG_BAD = Long.MIN_VALUE + 2;
    private static int wrong = 0;
    private static int asked = 0;

    private static void due(int promise, String what, long got, long want) {
        asked++;
        if (got != want) {
            wrong++;
            System.out.println("promise " + promise + ": " + what + " answered " + got + ", due is " + want);
        }
    }

    private static void say(LeaversFloor x, int text, String bytes) {
        x.wipe(text);
        for (char b : bytes.toCharArray()) {
            x.type(text, b);
        }
    }

    private static LeaversFloor made(String riders, String leavers, String stops) {
        LeaversFloor x = new LeaversFloor();
        say(x, 0, riders);
        say(x, 1, leavers);
        say(x, 2, stops);
        return x;
    }

    /** In at 0 behind 1, the absence in at HALF behind 2, rider 1 heavy 2, rider 0 out at 3 behind 6. */
    private static LeaversFloor small() {
        LeaversFloor x = made("503;202", "000", "03");
        x.set(0, 0);
        return x;
    }

    private static void newObject() {
        LeaversFloor x = new LeaversFloor();
        for (int what = 0; what <= 8; what++) {
            due(1, "count " + what, x.count(what), 0);
        }
        for (int s = 0; s < 4; s++) {
            due(1, "lose " + s, x.lose(s), NULL);
        }
        due(1, "forget", x.forget(), 0);
        due(1, "HALF", x.set(0, 0), 4);
        due(1, "LIMIT", x.set(1, 1), 20);
    }

    private static void type() {
        LeaversFloor x = new LeaversFloor();
        due(2, "text -1", x.type(-1, 48), BAD);
        due(2, "text 3", x.type(3, 48), BAD);
        due(2, "byte -1", x.type(0, -1), BAD);
        due(2, "byte 256", x.type(0, 256), BAD);
        due(2, "nothing came", x.count(3), 0);
        due(2, "byte 0", x.type(0, 0), 1);
        due(2, "byte 255", x.type(0, 255), 2);
        int[] rooms = {31, 31, 20};
        for (int text = 0; text < 3; text++) {
            x.wipe(text);
            for (int n = 1; n <= rooms[text]; n++) {
                due(2, "byte " + n + " of text " + text, x.type(text, 48 + n % 10), n);
            }
            due(2, "one too many", x.type(text, 48), FULL);
            due(2, "BAD is ahead of FULL", x.type(text, 256), BAD);
            due(2, "it stays", x.count(3 + text), rooms[text]);
        }
    }

    private static void wipe() {
        LeaversFloor x = made("503", "00", "");
        due(3, "wipe 0", x.wipe(0), 3);
        due(3, "wipe 0 again", x.wipe(0), 0);
        due(3, "wipe 1", x.wipe(1), 2);
        due(3, "wipe 2", x.wipe(2), 0);
        due(3, "wipe -1", x.wipe(-1), BAD);
        due(3, "wipe 3", x.wipe(3), BAD);
        due(3, "riders", x.count(0), 0);
        LeaversFloor y = made("503", "000", "03");
        due(3, "a rider", y.count(0), 1);
        y.wipe(0);
        due(3, "no rider any more", y.count(0), 0);
        due(3, "stops", y.ends(), 5);
        y.wipe(2);
        due(3, "no stops any more", y.ends(), 0);
        due(3, "typed anew", x.type(0, 57), 1);
    }

    private static void undo() {
        LeaversFloor x = made("503;", "", "12");
        due(4, "undo", x.undo(0), 3);
        due(4, "well again", x.count(0), 1);
        due(4, "undo 2", x.undo(2), 1);
        due(4, "stops", x.stop(1), NONE);
        due(4, "undo 2 more", x.undo(2), 0);
        due(4, "empty", x.undo(2), NOT);
        due(4, "empty 1", x.undo(1), NOT);
        due(4, "undo -1", x.undo(-1), BAD);
        due(4, "undo 3", x.undo(3), BAD);
    }

    private static void faultIs(int text, String bytes, int want) {
        LeaversFloor x = new LeaversFloor();
        say(x, text, bytes);
        due(5, "fault of " + bytes + " as text " + text, x.fault(text), want);
        if (want != NONE) {
            due(5, "as if empty: " + bytes, x.count(text), 0);
        }
        due(5, "bytes of " + bytes, x.count(3 + text), bytes.length());
    }

    private static void fault() {
        faultIs(0, "", NONE);
        faultIs(0, "100", NONE);
        faultIs(0, "999;100", NONE);
        faultIs(0, "000", 0);
        faultIs(0, "100;000", 4);
        faultIs(0, "1", 1);
        faultIs(0, "10", 2);
        faultIs(0, "100;", 4);
        faultIs(0, "100;1", 5);
        faultIs(0, "100;10", 6);
        faultIs(0, "1:0", 1);
        faultIs(0, "10/", 2);
        faultIs(0, "1000", 3);
        faultIs(0, ";", 0);
        faultIs(0, "100;;", 4);
        faultIs(0, "100;111;222;333;444;555;666;777", NONE);
        faultIs(0, "100;111;222;333;444;555;666;77;", 30);
        faultIs(1, "", NONE);
        faultIs(1, "000", NONE);
        faultIs(1, "997", NONE);
        faultIs(1, "998", 2);
        faultIs(1, "00", 2);
        faultIs(1, "0", 1);
        faultIs(1, "x00", 0);
        faultIs(1, "0;", 1);
        faultIs(1, "007;", 4);
        faultIs(1, "007;018", 6);
        faultIs(2, "", NONE);
        faultIs(2, "0123456789", NONE);
        faultIs(2, "01;", 2);
        faultIs(2, "x", 0);
        LeaversFloor x = new LeaversFloor();
        due(5, "fault -1", x.fault(-1), BAD);
        due(5, "fault 3", x.fault(3), BAD);
    }

    private static void riderAndLeaver() {
        LeaversFloor x = made("503;290", "997;120", "");
        int[][] riders = {{5, 0, 3}, {2, 9, 0}};
        int[][] leavers = {{99, 7}, {12, 0}};
        for (int i = 0; i < 2; i++) {
            for (int what = 0; what < 3; what++) {
                due(6, "rider", x.rider(i, what), riders[i][what]);
            }
            for (int what = 0; what < 2; what++) {
                due(7, "leaver", x.leaver(i, what), leavers[i][what]);
            }
        }
        due(6, "asked first", made("503", "127", "").rider(0, 0), 5);
        due(7, "asked first", made("503", "127", "").leaver(0, 0), 12);
        due(6, "rider 2", x.rider(2, 0), BAD);
        due(6, "rider -1", x.rider(-1, 0), BAD);
        due(6, "what 3", x.rider(0, 3), BAD);
        due(6, "what -1", x.rider(0, -1), BAD);
        due(7, "leaver 2", x.leaver(2, 0), BAD);
        due(7, "leaver -1", x.leaver(-1, 0), BAD);
        due(7, "what 2", x.leaver(0, 2), BAD);
        due(7, "what -1", x.leaver(0, -1), BAD);
        x.type(0, 'x');
        x.type(1, 'x');
        due(6, "with a fault", x.rider(0, 0), BAD);
        due(7, "with a fault", x.leaver(0, 0), BAD);
    }

    private static void stop() {
        LeaversFloor x = made("", "", "09876543210123456789");
        due(8, "stop 0", x.stop(0), 0);
        due(8, "stop 1", x.stop(1), 9);
        due(8, "stop 19", x.stop(19), 9);
        due(8, "stop 20", x.stop(20), BAD);
        due(8, "stop -1", x.stop(-1), BAD);
        x.undo(2);
        due(8, "stop 19 undone", x.stop(19), NONE);
    }

    private static void set() {
        LeaversFloor x = new LeaversFloor();
        due(9, "HALF 8", x.set(0, 8), 4);
        due(9, "HALF 9", x.set(0, 9), BAD);
        due(9, "HALF -1", x.set(0, -1), BAD);
        due(9, "HALF 0", x.set(0, 0), 8);
        due(9, "HALF was", x.set(0, 1), 0);
        due(9, "LIMIT 60", x.set(1, 60), 20);
        due(9, "LIMIT 61", x.set(1, 61), BAD);
        due(9, "LIMIT 0", x.set(1, 0), BAD);
        due(9, "LIMIT 1", x.set(1, 1), 60);
        due(9, "LIMIT was", x.set(1, 2), 1);
        due(9, "what 2", x.set(2, 2), BAD);
        due(9, "what -1", x.set(-1, 2), BAD);
    }

    private static void lift() {
        LeaversFloor x = small();
        int[] places = {0, 0, 1, 2, 4, 6, 6, 6};
        int[] heavies = {0, 7, 9, 9, 9, 9, 4, 4};
        int[] riders = {0, 3, 3, 3, 3, 3, 2, 2};
        int[] absences = {0, 0, 1, 1, 1, 1, 1, 1};
        for (int t = 0; t < 8; t++) {
            due(10, "place behind " + t, x.lift(t, 0), places[t]);
            due(10, "heavy behind " + t, x.lift(t, 1), heavies[t]);
            due(10, "riders behind " + t, x.lift(t, 2), riders[t]);
            due(10, "absences behind " + t, x.lift(t, 3), absences[t]);
        }
        due(10, "behind 255", x.lift(255, 0), 6);
        due(10, "behind 256", x.lift(256, 0), BAD);
        due(10, "behind -1", x.lift(-1, 0), BAD);
        due(10, "what 4", x.lift(0, 4), BAD);
        due(10, "what -1", x.lift(0, -1), BAD);
    }

    private static void liftDown() {
        // From 2 down to 0 past HALF 0: halts between 1 and 0, and the absence gets out at the street.
        LeaversFloor x = made("720", "040", "20");
        x.set(0, 0);
        int[] places = {0, 2, 4, 4, 2, 1, 0, 0};
        int[] heavies = {0, 0, 0, 7, 7, 10, 10, 0};
        for (int t = 0; t < 8; t++) {
            due(10, "down: place behind " + t, x.lift(t, 0), places[t]);
            due(10, "down: heavy behind " + t, x.lift(t, 1), heavies[t]);
        }
        say(x, 1, "050");
        due(10, "it left a step too late", x.lift(5, 0), 0);
        due(10, "and does not get in", x.lift(255, 3), 0);
    }

    private static void limit() {
        // 3 and 3 halves 1 are 4: the second absence waits on, and is let in where the lift passes again.
        LeaversFloor x = made("301;300", "000;001;017", "0110");
        x.set(0, 0);
        x.set(1, 4);
        due(10, "one is in", x.lift(2, 3), 1);
        due(10, "as heavy as may be", x.lift(2, 1), 4);
        due(10, "out at 1", x.lift(4, 1), 1);
        due(10, "the other is in", x.lift(6, 3), 3);
        due(10, "both are out", x.lift(8, 3), 0);
        due(11, "two halts between", x.ends(), 8);
        x.set(1, 3);
        due(10, "no room", x.lift(2, 3), 0);
        due(10, "it halts all the same", x.lift(2, 0), 1);
    }

    private static void ends() {
        due(11, "no stops", made("", "", "").ends(), 0);
        due(11, "there already", made("", "", "0").ends(), 1);
        due(11, "twice", made("", "", "00").ends(), 2);
        due(11, "up and down", made("", "", "90").ends(), 20);
        due(11, "no such rider", made("", "000", "9").ends(), 10);
        due(11, "one that waits", made("155", "000", "9").ends(), 11);
        due(11, "longest", made("955", "000", "90909090909090909090").ends(), 10 + 19 * 10 + 1);
        LeaversFloor x = made("955", "000", "90909090909090909090");
        x.set(1, 3);
        due(11, "none gets in, so it halts each time", x.ends(), 220);
    }

    private static void rides() {
        LeaversFloor x = small();
        due(12, "gets in", x.rides(0, 0), 1);
        due(12, "arrives", x.rides(0, 1), 6);
        due(12, "does not arrive", x.rides(1, 1), NONE);
        due(12, "not refused", x.rides(0, 2), 0);
        due(12, "rider 2", x.rides(2, 0), BAD);
        due(12, "rider -1", x.rides(-1, 0), BAD);
        due(12, "what 3", x.rides(0, 3), BAD);
        due(12, "what -1", x.rides(0, -1), BAD);
        say(x, 0, "444;901;801");
        x.set(1, 8);
        say(x, 2, "0040");
        due(12, "there ahead of all: in", x.rides(0, 0), NONE);
        due(12, "there ahead of all: arrived", x.rides(0, 1), 0);
        due(12, "there ahead of all: refused", x.rides(0, 2), 0);
        due(12, "too heavy", x.rides(1, 0), NONE);
        due(12, "too heavy thrice", x.rides(1, 2), 3);
        due(12, "the next one rides", x.rides(2, 0), 1);
    }

    private static void full() {
        LeaversFloor x = made("444;501;401;202", "", "00");
        due(13, "none", x.full(0), NONE);
        due(13, "no one", x.full(1), NONE);
        x.set(1, 7);
        due(13, "behind", x.full(0), 1);
        due(13, "who", x.full(1), 2);
        say(x, 1, "000");
        say(x, 0, "901");
        due(13, "alone", x.full(1), 0);
        say(x, 2, "1");
        due(13, "it never asks", x.full(0), NONE);
        due(13, "what 2", x.full(2), BAD);
        due(13, "what -1", x.full(-1), BAD);
    }

    private static void arrived() {
        LeaversFloor x = made("503;202;177", "", "023");
        due(14, "at first", x.arrived(0), 4);
        due(14, "behind 3", x.arrived(3), 4);
        due(14, "behind 4", x.arrived(4), 6);
        due(14, "behind 5", x.arrived(5), 6);
        due(14, "behind 6", x.arrived(6), 7);
        due(14, "behind 255", x.arrived(255), 7);
        due(14, "behind 256", x.arrived(256), BAD);
        due(14, "behind -1", x.arrived(-1), BAD);
    }

    private static void knows() {
        LeaversFloor x = small();
        due(15, "its own", x.knows(0, 0), 1);
        due(15, "another's", x.knows(1, 0), 1);
        due(15, "hears what it knows", x.knows(1, 1), 1);
        // Rider 0 knows, gets out with the absence at the street as rider 1 gets in: not together.
        // Rider 2 rides with both, so rider 1 hears of it from rider 2.
        say(x, 0, "110;109;118");
        say(x, 1, "002");
        x.set(0, 3);
        say(x, 2, "15108");
        due(15, "rider 0 knows", x.knows(0, 0), 1);
        due(15, "rider 2 knows", x.knows(2, 0), 1);
        due(15, "rider 1 does not", x.knows(1, 0), 0);
        due(15, "rider 1 hears", x.knows(1, 1), 1);
        due(15, "rider 3", x.knows(3, 0), BAD);
        due(15, "rider -1", x.knows(-1, 0), BAD);
        due(15, "what 2", x.knows(0, 2), BAD);
        due(15, "what -1", x.knows(0, -1), BAD);
    }

    private static void hearsNotBackwards() {
        // Rider 1 gets out at 2 ahead of HALF; what rider 0 comes to know later does not reach it.
        LeaversFloor x = made("108;102", "000", "028");
        due(15, "rider 0 knows", x.knows(0, 0), 1);
        due(15, "rider 1 hears nothing", x.knows(1, 1), 0);
    }

    private static void moreIs(LeaversFloor x, String what, int many, int first, int second) {
        due(16, what + ": how many", x.more(NONE), many);
        due(16, what + ": 0", x.more(0), first);
        due(16, what + ": 1", x.more(1), second);
    }

    private static void more() {
        moreIs(made("", "", ""), "no riders", 0, NONE, NONE);
        moreIs(made("177", "", ""), "all there", 0, NONE, NONE);
        moreIs(made("503", "", "03"), "enough", 0, NONE, NONE);
        moreIs(made("503", "", "0"), "one", 1, 3, NONE);
        moreIs(made("503", "", "3"), "two", 2, 0, 3);
        moreIs(made("503;502", "", "0"), "the least row", 2, 2, 3);
        moreIs(made("503;502;501", "", "0"), "three", NONE, NONE, NONE);
        moreIs(made("912", "", "00000000000000000000"), "behind twenty", 2, 1, 2);
        LeaversFloor y = made("955;171", "000", "90909090909090909090");
        y.set(1, 3);
        moreIs(y, "behind twenty, a halt at HALF on each way", 2, 7, 1);
        LeaversFloor x = small();
        moreIs(x, "as it is", 1, 2, NONE);
        due(16, "i 2", x.more(2), BAD);
        due(16, "i -2", x.more(-2), BAD);
        x.type(2, '2');
        moreIs(x, "another stop", 0, NONE, NONE);
        x.set(1, 4);
        moreIs(x, "too heavy", NONE, NONE, NONE);
    }

    private static void leaveIs(String stops, int many, int first, int second) {
        LeaversFloor x = small();
        say(x, 2, stops);
        due(17, stops + ": how many", x.leave(1, 0, NONE), many);
        due(17, stops + ": 0", x.leave(1, 0, 0), first);
        due(17, stops + ": 1", x.leave(1, 0, 1), second);
    }

    private static void leave() {
        leaveIs("", 0, NONE, NONE);
        leaveIs("0", 0, NONE, NONE);
        leaveIs("30", 0, NONE, NONE);
        leaveIs("03", 1, 0, NONE);
        leaveIs("003", 1, 2, NONE);
        leaveIs("0033", 2, 0, 1);
        leaveIs("00033", 2, 3, 4);
        leaveIs("000333", NONE, NONE, NONE);
        LeaversFloor x = small();
        due(17, "rider 2", x.leave(2, 0, 0), BAD);
        due(17, "rider -1", x.leave(-1, 0, 0), BAD);
        due(17, "leaver 1", x.leave(0, 1, 0), BAD);
        due(17, "leaver -1", x.leave(0, -1, 0), BAD);
        due(17, "i 2", x.leave(0, 0, 2), BAD);
        due(17, "i -2", x.leave(0, 0, -2), BAD);
        due(17, "as it was", x.leave(1, 0, NONE), 1);
        x.set(1, 8);
        due(17, "no room for it", x.leave(1, 0, NONE), 0);
    }

    private static void seen() {
        LeaversFloor x = new LeaversFloor();
        due(18, "steps -1", x.seen(-1, 0), BAD);
        due(18, "steps 256", x.seen(256, 0), BAD);
        due(18, "heavy -1", x.seen(0, -1), BAD);
        due(18, "heavy 1000", x.seen(0, 1000), BAD);
        due(18, "none yet", x.count(7), 0);
        for (int n = 1; n <= 8; n++) {
            due(18, "the " + n + "th", x.seen(255, 999), n);
        }
        due(18, "a ninth", x.seen(0, 0), FULL);
        due(18, "BAD is ahead of FULL", x.seen(0, 1000), BAD);
        due(19, "forget", x.forget(), 8);
        due(19, "forgotten", x.forget(), 0);
        due(18, "anew", x.seen(0, 0), 1);
        due(19, "count", x.count(7), 1);
    }

    private static void fill(LeaversFloor x, int s, int form, int... items) {
        x.sheet(s, form, items.length);
        for (int i = 0; i < items.length; i++) {
            x.put(s, form, i, items[i]);
        }
    }

    private static void read() {
        LeaversFloor x = new LeaversFloor();
        due(20, "sheet -1", x.read(-1), BAD);
        due(20, "sheet 4", x.read(4), BAD);
        due(20, "no finding", x.count(8), 0);
        due(20, "lost", x.read(0), NULL);
        due(20, "finding", x.count(8), 1);
        fill(x, 0, 2, 1, 5, 255, 999, 7);
        due(20, "two are whole", x.read(0), 2);
        due(20, "behind those that are", x.count(7), 2);
        fill(x, 1, 1, 3, 0, 4, 1000, 5, 0);
        due(20, "one may be", x.read(1), 1);
        due(20, "three now", x.count(7), 3);
        fill(x, 2, 0, -1, 0);
        due(20, "a byte below 0", x.read(2), 0);
        x.sheet(3, 2, 60);
        due(20, "until it is full", x.read(3), 5);
        due(20, "eight", x.forget(), 8);
        x.sheet(3, 0, 0);
        due(20, "no items", x.read(3), 0);
        x.sheet(3, 0, 1);
        due(20, "one item", x.read(3), 0);
        LeaversFloor y = small();
        fill(y, 0, 2, 2, 9);
        y.read(0);
        due(20, "what was read is SEEN", y.never(), 0);
        y.forget();
        fill(y, 0, 2, 2, 7, 5, 2);
        y.read(0);
        due(20, "both that were read", y.never(), 1);
    }

    private static void never() {
        // Without leaver 0 the lift does not halt at HALF, so it is at 1, as heavy as the riders are: 7.
        LeaversFloor x = small();
        due(21, "nothing seen", x.never(), 1);
        x.seen(2, 9);
        due(21, "it was there", x.never(), 0);
        x.forget();
        x.seen(2, 7);
        due(21, "it was not", x.never(), 1);
        x.seen(5, 2);
        due(21, "nor did the lift halt", x.never(), 1);
        x.seen(4, 8);
        due(21, "all must come out so", x.never(), 0);
        x.forget();
        say(x, 1, "000;001;997");
        x.seen(2, 8);
        due(21, "the heavier one never left", x.never(), 1);
        x.forget();
        x.seen(2, 9);
        due(21, "the lighter one never left", x.never(), 2);
        x.forget();
        x.seen(2, 10);
        due(21, "one of which there is no rider", x.never(), 4);
    }

    private static void who() {
        LeaversFloor x = small();
        due(22, "nothing seen", x.who(0), 3);
        x.seen(2, 9);
        due(22, "half of 5", x.who(0), 1);
        x.forget();
        x.seen(2, 8);
        due(22, "half of 2", x.who(0), 2);
        x.forget();
        x.seen(2, 7);
        due(22, "no one is so light", x.who(0), 0);
        x.forget();
        say(x, 0, "503;202;399");
        say(x, 1, "007");
        x.seen(2, 8);
        due(22, "no rider of its own", x.who(0), 6);
        due(22, "leaver 1", x.who(1), BAD);
        due(22, "leaver -1", x.who(-1), BAD);
    }

    private static void weigh() {
        LeaversFloor x = new LeaversFloor();
        due(23, "no leavers", x.weigh(), 0);
        say(x, 0, "503;202");
        say(x, 1, "000;001;997");
        say(x, 2, "03");
        x.set(0, 0);
        // Without 0: 8 behind 2; without 1: 9; without 2: 10. All three differ first behind 2.
        due(23, "three", x.weigh(), 2);
        x.seen(2, 8);
        due(23, "one alone", x.weigh(), 0);
        x.seen(3, 1);
        due(23, "none", x.weigh(), 0);
        x.forget();
        say(x, 1, "000;000;001");
        // Without 0 or 1: 10, without 2: 11. Two are alike always, three are so only until 2.
        due(23, "two are alike", x.weigh(), 2);
        x.seen(2, 10);
        due(23, "those two cannot be told apart", x.weigh(), 0);
    }

    private static void maybeIs(LeaversFloor x, int c, int steps, long above, long below) {
        due(24, c + " behind " + steps + " above", x.maybe(c, 0, steps, 0), above);
        due(24, c + " behind " + steps + " below", x.maybe(c, 0, steps, 1), below);
    }

    private static void maybe() {
        // If it leaves, the lift halts for it, and rider 0 arrives behind 6 and not 5.
        LeaversFloor x = small();
        maybeIs(x, 4, 4, 0, 1);
        maybeIs(x, 4, 5, 3, 4);
        maybeIs(x, 5, 5, 11, 16);
        maybeIs(x, 0, 5, 1, 1);
        maybeIs(x, 16, 5, 0, 1);
        maybeIs(x, 4, 6, 1, 1);
        maybeIs(x, 4, 255, 1, 1);
        due(24, "never", x.maybe(4, 1, 255, 0), 0);
        say(x, 1, "000;000");
        maybeIs(x, 4, 5, 9, 16);
        say(x, 1, "000;001;000;001;000;001;000;001");
        maybeIs(x, 15, 5, 1, 1L << 32);
        say(x, 1, "007");
        maybeIs(x, 4, 5, 1, 1);
        say(x, 1, "");
        maybeIs(x, 4, 5, 1, 1);
        due(24, "c -1", x.maybe(-1, 0, 0, 0), LONG_BAD);
        due(24, "c 17", x.maybe(17, 0, 0, 0), LONG_BAD);
        due(24, "rider 2", x.maybe(0, 2, 0, 0), LONG_BAD);
        due(24, "rider -1", x.maybe(0, -1, 0, 0), LONG_BAD);
        due(24, "steps 256", x.maybe(0, 0, 256, 0), LONG_BAD);
        due(24, "steps -1", x.maybe(0, 0, -1, 0), LONG_BAD);
        due(24, "what 2", x.maybe(0, 0, 0, 2), LONG_BAD);
        due(24, "what -1", x.maybe(0, 0, 0, -1), LONG_BAD);
    }

    private static void day() {
        // 7 becomes 3429651764, whose upper 16 bits are 52332: the first lot is 2.
        LeaversFloor x = made("922;102;520", "", "9");
        due(25, "it stays", x.day(7, 1, 1), 3);
        due(25, "arrived", x.day(7, 1, 0), 1);
        due(25, "stops as told", x.stop(0), 9);
        due(25, "the ride as told", x.ends(), 10);
        due(25, "n 0", x.day(7, 0, 0), BAD);
        due(25, "n 21", x.day(7, 21, 0), BAD);
        due(25, "what 2", x.day(7, 1, 2), BAD);
        due(25, "what -1", x.day(7, 1, -1), BAD);
        // From 0: 12345, 0; 3554416254, 54236: 6; 2802067423, 42756: 6.
        due(25, "seed 0", x.day(0, 1, 1), 1);
        due(25, "seed 0, three", x.day(0, 3, 1), 9);
        say(x, 0, "106");
        due(25, "in at 0, out at 6", x.day(0, 2, 0), 1);
    }

    private static void sheets() {
        LeaversFloor x = new LeaversFloor();
        due(26, "sheet -1", x.sheet(-1, 0, 1), BAD);
        due(26, "sheet 4", x.sheet(4, 0, 1), BAD);
        due(26, "form -1", x.sheet(0, -1, 1), BAD);
        due(26, "form 3", x.sheet(0, 3, 1), BAD);
        due(26, "61 items", x.sheet(0, 0, 61), BAD);
        due(26, "BAD is ahead of SIZE", x.sheet(0, 3, -1), BAD);
        due(26, "no finding", x.count(8), 0);
        due(26, "below 0", x.sheet(0, 0, -1), SIZE);
        due(26, "finding", x.count(8), 5);
        due(26, "still lost", x.lose(0), NULL);
        due(26, "0 items", x.sheet(0, 0, 0), 0);
        due(26, "60 items", x.sheet(0, 2, 60), 60);
        due(26, "0 at first", x.get(0, 2, 59), 0);
        x.put(0, 2, 59, 7);
        due(26, "no change by a refusal", x.sheet(0, 2, -5), SIZE);
        due(26, "it stays", x.get(0, 2, 59), 7);
        x.sheet(0, 2, 60);
        due(26, "a new row", x.get(0, 2, 59), 0);
        due(27, "lose", x.lose(0), 60);
        due(27, "lost", x.lose(0), NULL);
        due(27, "finding", x.count(8), 1);
        due(27, "lose -1", x.lose(-1), BAD);
        due(27, "lose 4", x.lose(4), BAD);
        x.sheet(3, 1, 0);
        due(27, "an empty one", x.lose(3), 0);
    }

    private static void put() {
        LeaversFloor x = new LeaversFloor();
        due(28, "sheet 4", x.put(4, 0, 0, 0), BAD);
        due(28, "sheet -1", x.put(-1, 0, 0, 0), BAD);
        due(28, "form 3", x.put(0, 3, 0, 0), BAD);
        due(28, "form -1", x.put(0, -1, 0, 0), BAD);
        due(28, "lost", x.put(0, 0, 9, 0), NULL);
        x.sheet(0, 0, 3);
        due(28, "CAST is ahead of INDEX", x.put(0, 1, 9, 0), CAST);
        due(28, "finding", x.count(8), 3);
        due(28, "item 3", x.put(0, 0, 3, 0), INDEX);
        due(28, "finding", x.count(8), 2);
        due(28, "item -1", x.put(0, 0, -1, 0), INDEX);
        due(28, "put", x.put(0, 0, 2, 127), 1);
        due(29, "get", x.get(0, 0, 2), 127);
        x.put(0, 0, 1, 128);
        due(28, "lowest bits of a byte", x.get(0, 0, 1), -128);
        x.put(0, 0, 0, 0x1ff);
        due(28, "all ones", x.get(0, 0, 0), -1);
        x.sheet(1, 1, 1);
        x.put(1, 1, 0, 32767);
        due(28, "a short", x.get(1, 1, 0), 32767);
        x.put(1, 1, 0, 0x12348000);
        due(28, "lowest bits of a short", x.get(1, 1, 0), -32768);
        x.sheet(2, 2, 1);
        x.put(2, 2, 0, 0x80000001);
        due(28, "an int", x.get(2, 2, 0), 0x80000001);
    }

    private static void get() {
        LeaversFloor x = new LeaversFloor();
        due(29, "sheet 4", x.get(4, 0, 0), LEAST);
        due(29, "sheet -1", x.get(-1, 0, 0), LEAST);
        due(29, "form 3", x.get(0, 3, 0), LEAST);
        due(29, "form -1", x.get(0, -1, 0), LEAST);
        due(29, "no finding", x.count(8), 0);
        due(29, "lost", x.get(0, 0, 0), LEAST);
        due(29, "NULL", x.count(8), 1);
        x.sheet(0, 0, 1);
        due(29, "another form", x.get(0, 2, 5), LEAST);
        due(29, "CAST", x.count(8), 3);
        due(29, "item 1", x.get(0, 0, 1), LEAST);
        due(29, "INDEX", x.count(8), 2);
        due(29, "item -1", x.get(0, 0, -1), LEAST);
        due(29, "item 0", x.get(0, 0, 0), 0);
        due(29, "the latest stays", x.count(8), 2);
    }

    private static void itemsAre(int promise, LeaversFloor x, int s, int form, int... items) {
        for (int i = 0; i < items.length; i++) {
            due(promise, "item " + i + " of sheet " + s, x.get(s, form, i), items[i]);
        }
    }

    private static void copy() {
        LeaversFloor x = new LeaversFloor();
        due(30, "sheet -1", x.copy(-1, 0, 0, 0, 0), BAD);
        due(30, "sheet 4", x.copy(0, 0, 4, 0, 0), BAD);
        due(30, "BAD is ahead of NULL", x.copy(0, 0, -1, 0, 0), BAD);
        due(30, "s lost", x.copy(0, 0, 1, 0, 0), NULL);
        fill(x, 0, 0, 1, 2, 3, 4);
        due(30, "t lost", x.copy(0, 0, 1, 0, 0), NULL);
        x.sheet(1, 1, 2);
        due(30, "STORE is ahead of INDEX", x.copy(0, 9, 1, 9, 9), STORE);
        due(30, "finding", x.count(8), 4);
        x.sheet(1, 0, 2);
        due(30, "i below 0", x.copy(0, -1, 1, 0, 1), INDEX);
        due(30, "j below 0", x.copy(0, 0, 1, -1, 1), INDEX);
        due(30, "n below 0", x.copy(0, 0, 1, 0, -1), INDEX);
        due(30, "not so many in s", x.copy(0, 3, 1, 0, 2), INDEX);
        due(30, "not so many in t", x.copy(0, 0, 1, 1, 2), INDEX);
        due(30, "far off", x.copy(0, Integer.MAX_VALUE, 1, 0, 1), INDEX);
        due(30, "far too many", x.copy(0, 1, 1, 1, Integer.MAX_VALUE), INDEX);
        itemsAre(30, x, 1, 0, 0, 0);
        due(30, "none at the end", x.copy(0, 4, 1, 2, 0), 1);
        due(30, "none behind the end", x.copy(0, 5, 1, 0, 0), INDEX);
        due(30, "copy", x.copy(0, 2, 1, 0, 2), 1);
        itemsAre(30, x, 1, 0, 3, 4);
        due(30, "onto itself", x.copy(0, 0, 0, 1, 3), 1);
        itemsAre(30, x, 0, 0, 1, 1, 2, 3);
        due(30, "and back", x.copy(0, 1, 0, 0, 3), 1);
        itemsAre(30, x, 0, 0, 1, 2, 3, 3);
        fill(x, 2, 1, 300, -300);
        fill(x, 3, 1, 0, 0, 0);
        due(30, "shorts", x.copy(2, 0, 3, 1, 2), 1);
        itemsAre(30, x, 3, 1, 0, 300, -300);
    }

    private static void write() {
        LeaversFloor x = small();
        due(31, "what 4", x.write(4, 0), BAD);
        due(31, "what -1", x.write(-1, 0), BAD);
        due(31, "sheet 4", x.write(0, 4), BAD);
        due(31, "sheet -1", x.write(0, -1), BAD);
        due(31, "lost", x.write(0, 0), NULL);
        due(31, "finding", x.count(8), 1);
        x.sheet(0, 2, 8);
        due(31, "places", x.write(0, 0), 8);
        itemsAre(31, x, 0, 2, 0, 0, 1, 2, 4, 6, 6, 6);
        x.sheet(1, 0, 7);
        due(31, "heavies", x.write(1, 1), 7);
        itemsAre(31, x, 1, 0, 0, 7, 9, 9, 9, 9, 4);
        x.sheet(1, 1, 3);
        due(31, "riders", x.write(2, 1), 3);
        itemsAre(31, x, 1, 1, 0, 3, 3);
        x.sheet(1, 1, 60);
        due(31, "absences", x.write(3, 1), 60);
        itemsAre(31, x, 1, 1, 0, 0, 1);
        due(31, "the last", x.get(1, 1, 59), 1);
        x.sheet(1, 1, 0);
        due(31, "no items", x.write(3, 1), 0);
        say(x, 0, "155;155;155;155;155;155;155;109");
        x.sheet(2, 0, 2);
        x.write(2, 2);
        itemsAre(31, x, 2, 0, 0, -128);
    }

    private static void count() {
        LeaversFloor x = made("503;202;177", "000;001", "0303");
        int[] want = {3, 2, 4, 11, 7, 4, 2, 0, 0};
        for (int what = 0; what < want.length; what++) {
            due(32, "count " + what, x.count(what), want[what]);
        }
        x.seen(1, 1);
        due(32, "count 7", x.count(7), 1);
        x.lose(0);
        due(32, "count 8", x.count(8), 1);
        x.sheet(0, 0, -1);
        due(32, "the latest", x.count(8), 5);
        x.sheet(0, 0, 1);
        due(32, "stays the latest", x.count(8), 5);
        due(32, "count 9", x.count(9), BAD);
        due(32, "count -1", x.count(-1), BAD);
    }

    private static long mix(long h, long... parts) {
        for (long part : parts) {
            h = 31 * h + part;
        }
        return h;
    }

    private static void digest() {
        LeaversFloor x = new LeaversFloor();
        long h = mix(17, 0, 0, 0, 0, 0, 0, 0, 0, -1, -1, -1);
        h = mix(h, 0, 0, 0, 0, 0, 0, 0, 0, 0, 0, 0, 0, 0, 0, 0, 0, 0, 0, 0, 0);
        h = mix(h, 0, -1, -1, 0, -1, 0, 0, -2, -2, LONG_BAD, LONG_BAD);
        due(33, "a new one", x.digest(), mix(h, 0, x.day(7, 12, 1)));
        x.seen(1, 1);
        due(33, "it sees SEEN", x.digest() == mix(h, 0, x.day(7, 12, 1)) ? 1 : 0, 0);
        x = small();
        h = mix(17, 2, 1, 2, 7, 3, 2, 1, 0, -1, -1, -1);
        h = mix(h, 5, 0, 3, 1, 6, 0, 1, 1);
        h = mix(h, 2, 0, 2, 1, -1, 0, 1, 1);
        h = mix(h, 0, 0, 3);
        h = mix(h, 0, 3);
        h = mix(h, 0, 0, 0, 0, 0);
        h = mix(h, 6, 4, 2, 1, 1, 6, 4, 2, 1, 1, 6, 4, 2, 1, 1);
        h = mix(h, 6, -1, -1, 1, 2, 1, 0, 1, 0, 1, 1);
        due(33, "a small one", x.digest(), mix(h, x.day(7, 12, 0), x.day(7, 12, 1)));
        due(33, "again", x.digest(), mix(h, x.day(7, 12, 0), x.day(7, 12, 1)));
    }

    private static void constants() {
        due(0, "NONE", LeaversFloor.NONE, NONE);
        due(0, "BAD", LeaversFloor.BAD, BAD);
        due(0, "NOT", LeaversFloor.NOT, NOT);
        due(0, "FULL", LeaversFloor.FULL, FULL);
    }

    public static void main(String[] args) {
        constants();
        newObject();
        type();
        wipe();
        undo();
        fault();
        riderAndLeaver();
        stop();
        set();
        lift();
        liftDown();
        limit();
        ends();
        rides();
        full();
        arrived();
        knows();
        hearsNotBackwards();
        more();
        leave();
        seen();
        read();
        never();
        who();
        weigh();
        maybe();
        day();
        sheets();
        put();
        get();
        copy();
        write();
        count();
        digest();
        System.out.println(asked + " answers by hand, " + wrong + " wrong");
        if (wrong != 0) {
            System.exit(1);
        }
    }
}
