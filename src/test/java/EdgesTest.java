import java.math.BigInteger;

/**
 * The boundary cases that the document names, in its order. Each test begins with the document's own
 * words, or with what follows from them; its answers are worked out by hand from these. RefusalsTest
 * has the refused calls.
 */
public final class EdgesTest {
    private static final int NONE = -1, BAD = -2, NOT = -3, FULL = -4;
    private static final int INDEX = -12;
    private static final int LEAST = Integer.MIN_VALUE;
    private static final long LONG_BAD = Long.MIN_VALUE + 2;
    private static final String[] FULL_TEXTS = {
        "123;345;567;789;901;112;334;556", "120;341;562;783;904;115;336;557", "01234567890123456789"};
    private static int wrong = 0;
    private static int asked = 0;
    private static String sentence = "";

    private static void says(String words) {
        sentence = words;
    }

    private static void due(String what, long got, long want) {
        asked++;
        if (got != want) {
            wrong++;
            System.out.println("\"" + sentence + "\": " + what + " answered " + got + ", due is " + want);
        }
    }

    private static void say(LeaversFloor x, int text, String bytes) {
        x.wipe(text);
        for (char b : bytes.toCharArray()) {
            x.type(text, b);
        }
    }

    /** HALF is 4 and LIMIT 20, as at first. */
    private static LeaversFloor made(String riders, String leavers, String stops) {
        LeaversFloor x = new LeaversFloor();
        say(x, 0, riders);
        say(x, 1, leavers);
        say(x, 2, stops);
        return x;
    }

    private static LeaversFloor made(String riders, String leavers, String stops, int half, int limit) {
        LeaversFloor x = made(riders, leavers, stops);
        x.set(0, half);
        x.set(1, limit);
        return x;
    }

    private static void liftIs(LeaversFloor x, int steps, int place, int heavy, int riders, int absences) {
        due("place behind " + steps, x.lift(steps, 0), place);
        due("heavy behind " + steps, x.lift(steps, 1), heavy);
        due("riders behind " + steps, x.lift(steps, 2), riders);
        due("absences behind " + steps, x.lift(steps, 3), absences);
    }

    private static void ridesIs(LeaversFloor x, int rider, int in, int arrives, int refused) {
        due("rider " + rider + " gets in", x.rides(rider, 0), in);
        due("rider " + rider + " arrives", x.rides(rider, 1), arrives);
        due("rider " + rider + " is refused", x.rides(rider, 2), refused);
    }

    private static void fullIs(LeaversFloor x, int behind, int who) {
        due("full behind", x.full(0), behind);
        due("full for", x.full(1), who);
    }

    private static String times(String part, int n) {
        return part.repeat(n);
    }

    // ---- what a new object is

    private static void newObject() {
        says("No RIDERS, no LEAVERS, no STOPS; all SHEETS are LOST.");
        LeaversFloor x = new LeaversFloor();
        for (int what = 0; what <= 8; what++) {
            due("count " + what, x.count(what), 0);
        }
        due("rider 0", x.rider(0, 0), BAD);
        due("leaver 0", x.leaver(0, 0), BAD);
        due("stop 0", x.stop(0), NONE);
        due("stop 19", x.stop(19), NONE);
        liftIs(x, 0, 0, 0, 0, 0);
        liftIs(x, 255, 0, 0, 0, 0);
        due("ends", x.ends(), 0);
        fullIs(x, NONE, NONE);
        due("arrived", x.arrived(0), 0);
        due("arrived in the end", x.arrived(255), 0);
        due("more", x.more(NONE), 0);
        due("more 0", x.more(0), NONE);
        due("more 1", x.more(1), NONE);
        due("never", x.never(), 0);
        due("weigh", x.weigh(), 0);
        due("forget", x.forget(), 0);
        for (int text = 0; text < 3; text++) {
            due("fault", x.fault(text), NONE);
            due("wipe", x.wipe(text), 0);
        }
        for (int s = 0; s < 4; s++) {
            for (int form = 0; form < 3; form++) {
                due("get of " + s, x.get(s, form, 0), LEAST);
                due("it is LOST", x.count(8), 1);
            }
        }
    }

    // ---- part 1: the texts

    private static boolean mayStand(int text, int place, int b) {
        boolean figure = b >= 48 && b <= 57;
        if (text == 2) {
            return figure;
        }
        switch (place % 4) {
            case 0: return figure && (text == 1 || b != 48);
            case 2: return figure && (text == 0 || b != 56 && b != 57);
            case 3: return b == 59;
            default: return figure;
        }
    }

    private static void everyByteAtEveryPlace() {
        says("The FAULT of a text is the place of the first byte with which it cannot go on");
        int[] parts = {8, 8, 20};
        for (int text = 0; text < 3; text++) {
            for (int place = 0; place < FULL_TEXTS[text].length(); place++) {
                for (int b = 0; b < 256; b++) {
                    char[] bytes = FULL_TEXTS[text].toCharArray();
                    bytes[place] = (char) b;
                    LeaversFloor x = new LeaversFloor();
                    say(x, text, new String(bytes));
                    boolean well = mayStand(text, place, b);
                    String what = "byte " + b + " at " + place + " of text " + text;
                    due(what, x.fault(text), well ? NONE : place);
                    due(what + ", parts", x.count(text), well ? parts[text] : 0);
                }
            }
        }
    }

    private static void everyLength() {
        says("an empty one is well; of one that is not ended, its end");
        for (int text = 0; text < 3; text++) {
            LeaversFloor x = new LeaversFloor();
            due("empty", x.fault(text), NONE);
            for (int n = 1; n <= FULL_TEXTS[text].length(); n++) {
                due("byte " + n, x.type(text, FULL_TEXTS[text].charAt(n - 1)), n);
                boolean ended = text == 2 || n % 4 == 3;
                due(n + " bytes of text " + text, x.fault(text), ended ? NONE : n);
                due("parts of " + n, x.count(text), text == 2 ? n : ended ? (n + 1) / 4 : 0);
            }
            for (int n = FULL_TEXTS[text].length() - 1; n >= 0; n--) {
                due("undone to " + n, x.undo(text), n);
                due("then its fault", x.fault(text), text == 2 || n % 4 == 3 || n == 0 ? NONE : n);
            }
            due("nothing is left", x.undo(text), NOT);
        }
    }

    private static void faultOf(int text, String bytes, int want) {
        LeaversFloor x = new LeaversFloor();
        say(x, text, bytes);
        due(bytes, x.fault(text), want);
    }

    private static void theFirstFault() {
        says("the place of the first byte with which it cannot go on");
        faultOf(0, "0x", 0);
        faultOf(0, "1x0;0", 1);
        faultOf(0, "1x", 1);
        faultOf(0, "101:000;00", 3);
        faultOf(0, "101;0", 4);
        faultOf(0, ";;", 0);
        faultOf(1, "x;", 0);
        faultOf(1, "008;009", 2);
        faultOf(1, "00;", 2);
        faultOf(1, "000;00", 6);
        faultOf(2, ";;", 0);
        faultOf(2, "0123456789012345678;", 19);
    }

    private static void roomOfTexts() {
        says("RIDERS are a text of up to 31 bytes (text 0), 8 at most; LEAVERS of up to 31; STOPS of up to 20 figures");
        int[] rooms = {31, 31, 20};
        for (int text = 0; text < 3; text++) {
            for (int filler : new int[] {0, 48, 255}) {
                LeaversFloor x = new LeaversFloor();
                for (int n = 1; n <= rooms[text]; n++) {
                    due("byte " + n, x.type(text, filler), n);
                }
                due("one more", x.type(text, 48), FULL);
                due("bytes", x.count(3 + text), rooms[text]);
                due("undo", x.undo(text), rooms[text] - 1);
                due("room again", x.type(text, 48), rooms[text]);
                due("and full again", x.type(text, 48), FULL);
                due("wipe", x.wipe(text), rooms[text]);
                due("the first again", x.type(text, 48), 1);
            }
        }
    }

    private static void noNinth() {
        says("here also of the first byte of a ninth");
        LeaversFloor x = made(FULL_TEXTS[0], FULL_TEXTS[1], FULL_TEXTS[2]);
        for (int text = 0; text < 2; text++) {
            due("a ; behind the eighth", x.type(text, 59), FULL);
            due("it is well as it was", x.fault(text), NONE);
            due("eight", x.count(text), 8);
        }
        due("a 21st stop", x.type(2, 48), FULL);
        due("twenty", x.count(2), 20);
    }

    private static void firstAndLastOfAll() {
        says("8 at most (0 on)");
        LeaversFloor x = made(FULL_TEXTS[0], FULL_TEXTS[1], FULL_TEXTS[2]);
        due("the first is heavy", x.rider(0, 0), 1);
        due("the first from", x.rider(0, 1), 2);
        due("the first to", x.rider(0, 2), 3);
        due("the last is heavy", x.rider(7, 0), 5);
        due("the last from", x.rider(7, 1), 5);
        due("the last to", x.rider(7, 2), 6);
        due("no ninth", x.rider(8, 0), BAD);
        due("none ahead of the first", x.rider(-1, 0), BAD);
        due("first leaver at", x.leaver(0, 0), 12);
        due("first leaver", x.leaver(0, 1), 0);
        due("last leaver at", x.leaver(7, 0), 55);
        due("last leaver", x.leaver(7, 1), 7);
        due("no ninth leaver", x.leaver(8, 0), BAD);
        due("first stop", x.stop(0), 0);
        due("last stop", x.stop(19), 9);
        due("no stop 20", x.stop(20), BAD);
        x.undo(2);
        due("stop 18 is the last", x.stop(18), 8);
        due("stop 19 is not", x.stop(19), NONE);
        says("how HEAVY (1 to 9), a figure, FROM which FLOOR (0 to 9), and a figure, TO which");
        x = made("109;990", "000;997", "");
        int[] want = {1, 0, 9, 9, 9, 0};
        for (int i = 0; i < 6; i++) {
            due("rider " + i / 3 + " " + i % 3, x.rider(i / 3, i % 3), want[i]);
        }
        says("at which STEP (00 to 99), and a figure, which RIDER has left (0 to 7)");
        int[] left = {0, 0, 99, 7};
        for (int i = 0; i < 4; i++) {
            due("leaver " + i / 2 + " " + i % 2, x.leaver(i / 2, i % 2), left[i]);
        }
    }

    /** Rider 0 and 1 in at 0; the absence of rider 0 in at HALF behind 2; rider 0 out at 3 behind 6. */
    private static LeaversFloor small() {
        return made("503;202", "000", "03", 0, 20);
    }

    private static void asIfEmpty() {
        says("With a FAULT a text is as if it was empty.");
        LeaversFloor x = small();
        x.type(0, 'x');
        due("fault", x.fault(0), 7);
        due("bytes are there", x.count(3), 8);
        due("riders", x.count(0), 0);
        due("leavers", x.count(1), 1);
        due("rider", x.rider(0, 0), BAD);
        due("rides", x.rides(0, 0), BAD);
        due("knows", x.knows(0, 0), BAD);
        due("leave", x.leave(0, 0, NONE), BAD);
        due("maybe", x.maybe(4, 0, 5, 0), LONG_BAD);
        due("who", x.who(0), 0);
        due("never", x.never(), 1);
        due("no absence to halt for", x.ends(), 5);
        due("arrived", x.arrived(255), 0);
        due("more", x.more(NONE), 0);
        due("undone", x.undo(0), 7);
        due("as it was", x.ends(), 6);
        x.type(1, ';');
        due("fault of leavers", x.fault(1), 4);
        due("no leavers", x.count(1), 0);
        due("leaver", x.leaver(0, 0), BAD);
        due("who of none", x.who(0), BAD);
        due("never of none", x.never(), 0);
        due("knows of none", x.knows(0, 1), 0);
        due("leave of none", x.leave(0, 0, NONE), BAD);
        due("no halt", x.ends(), 5);
        due("sure to arrive", x.maybe(16, 0, 5, 0), 1);
        x.undo(1);
        due("as it was", x.ends(), 6);
        x.type(2, ' ');
        due("fault of stops", x.fault(2), 2);
        due("no stops", x.count(2), 0);
        due("stop", x.stop(0), NONE);
        due("it stays", x.ends(), 0);
        due("at 0", x.lift(255, 0), 0);
        due("nobody arrives", x.arrived(255), 0);
        due("more than two", x.more(NONE), NONE);
        due("a day has stops of its own: 2", x.day(7, 1, 1), 3 + 1);
        x.undo(2);
        due("as it was", x.ends(), 6);
    }

    // ---- part 1: HALF, LIMIT, ABSENCES

    private static void settings() {
        says("HALF (0 to 8; 4 at first)");
        LeaversFloor x = new LeaversFloor();
        int was = 4;
        for (int v = 0; v <= 8; v++) {
            due("HALF " + v, x.set(0, v), was);
            was = v;
        }
        due("HALF 9", x.set(0, 9), BAD);
        due("HALF -1", x.set(0, -1), BAD);
        due("HALF is still 8", x.set(0, 0), 8);
        says("LIMIT (1 to 60; 20 at first)");
        was = 20;
        for (int v = 1; v <= 60; v++) {
            due("LIMIT " + v, x.set(1, v), was);
            was = v;
        }
        due("LIMIT 61", x.set(1, 61), BAD);
        due("LIMIT 0", x.set(1, 0), BAD);
        due("LIMIT is still 60", x.set(1, 1), 60);
        due("HALF is still 0", x.set(0, 0), 0);
    }

    private static void placeOfHalf() {
        says("between that FLOOR and the next higher one there is a place where ABSENCES wait");
        for (int half = 0; half <= 8; half++) {
            LeaversFloor x = made("200", "000", "9", half, 20);
            due("HALF " + half + ": at its floor", x.lift(half, 0), 2 * half);
            due("it halts", x.lift(half + 1, 0), 2 * half + 1);
            due("then the next floor", x.lift(half + 2, 0), 2 * half + 2);
            due("ends", x.ends(), 11);
            due("none in yet", x.lift(half, 3), 0);
            due("in", x.lift(half + 1, 3), 1);
        }
        says("HALF (4 at first)");
        due("between 4 and 5", made("200", "000", "9").lift(5, 0), 9);
    }

    private static void whereItPasses() {
        says("where it would pass HALF, and ABSENCES wait there then, it HALTS there for one STEP first");
        due("up to HALF only", made("255", "000", "4").ends(), 5);
        due("up past HALF", made("255", "000", "5").ends(), 7);
        due("from HALF up", made("255", "000", "45").ends(), 8);
        due("from above HALF up", made("255", "070", "56").ends(), 8);
        due("down to the next higher floor only", made("255", "060", "65").ends(), 9);
        due("down past HALF", made("255", "060", "64").ends(), 11);
        due("from the next higher floor down", made("255", "060", "54").ends(), 9);
        due("from HALF down", made("255", "050", "43").ends(), 7);
        LeaversFloor x = made("255", "060", "54");
        liftIs(x, 6, 10, 0, 0, 0);
        liftIs(x, 7, 9, 1, 0, 1);
        liftIs(x, 8, 8, 1, 0, 1);
        liftIs(x, 9, 8, 1, 0, 1);
        says("ABSENCES wait, of each LEAVER, whose RIDER there is");
        due("the last rider", made("255;255", "001", "5").ends(), 7);
        due("one behind the last", made("255;255", "002", "5").ends(), 6);
        due("rider 7 of two", made("255;255", "007", "5").ends(), 6);
        due("rider 7 of eight", made(times("255;", 7) + "255", "007", "5").ends(), 7);
        due("no riders", made("", "000", "5").ends(), 6);
        due("one there is, one there is not", made("255", "007;000", "5").lift(5, 3), 2);
    }

    private static void fromItsStepOn() {
        says("from a STEP on that is no later than how many STEPS there were");
        due("up: 00", made("299", "000", "9").ends(), 11);
        due("up: 04, as it is there behind 4", made("299", "040", "9").lift(5, 0), 9);
        due("up: 05 is later", made("299", "050", "9").lift(5, 0), 10);
        due("up: 05, ends", made("299", "050", "9").ends(), 10);
        due("down: 14, as it is there behind 14", made("299", "140", "90").lift(15, 0), 9);
        due("down: 15 is later", made("299", "150", "90").lift(15, 0), 8);
        due("from 2 up: 05, as it is at 4 behind 5", made("299", "050", "29").lift(6, 0), 9);
        due("from 2 up: 06 is later", made("299", "060", "29").lift(6, 0), 10);
        due("from 7 down: 10, as it is at 5 behind 10", made("299", "100", "72").lift(11, 0), 9);
        due("from 7 down: 11 is later", made("299", "110", "72").lift(11, 0), 8);
        due("from 4 up: 05, as it has halted", made("299", "050", "45").lift(6, 0), 9);
        due("from 4 up: 06 is later", made("299", "060", "45").lift(6, 0), 10);
        due("from 5 down: 06, as it has halted", made("299", "060", "54").lift(7, 0), 9);
        due("from 5 down: 07 is later", made("299", "070", "54").lift(7, 0), 8);
        LeaversFloor x = made("299;499", "040;051", "990");
        liftIs(x, 5, 9, 1, 0, 1);
        liftIs(x, 16, 10, 1, 0, 1);
        liftIs(x, 17, 9, 3, 0, 3);
        // Nine stops take 90 steps, each 9 more takes one, and floor 5 is four steps down.
        String late = times("90", 4) + "9";
        says("at which STEP (00 to 99)");
        x = made("299", "990", late + "99999" + "0");
        due("behind 99 at 5", x.lift(99, 0), 10);
        due("99 waits", x.lift(100, 0), 9);
        due("it ends", x.ends(), 90 + 5 + 11);
        x = made("299", "990", late + "9999" + "0");
        due("behind 98 at 5", x.lift(98, 0), 10);
        due("99 does not wait yet", x.lift(99, 0), 8);
        due("it ends", x.ends(), 90 + 4 + 10);
    }

    private static void halfAsHeavy() {
        says("An ABSENCE is half as HEAVY as its RIDER (cut).");
        int[] halves = {0, 0, 1, 1, 2, 2, 3, 3, 4, 4};
        for (int heavy = 1; heavy <= 9; heavy++) {
            LeaversFloor x = made(heavy + "55", "000", "5");
            due("half of " + heavy, x.lift(5, 1), halves[heavy]);
            due("it rides", x.lift(5, 3), 1);
        }
    }

    // ---- part 1: the lift

    private static void bareAtFirst() {
        says("The lift is at FLOOR 0 behind 0 STEPS, bare.");
        LeaversFloor x = made("109", "000", "09", 0, 20);
        liftIs(x, 0, 0, 0, 0, 0);
        liftIs(x, 1, 0, 1, 1, 0);
        liftIs(x, 2, 1, 1, 1, 1);
        say(x, 2, "");
        liftIs(x, 0, 0, 0, 0, 0);
        liftIs(x, 255, 0, 0, 0, 0);
        ridesIs(x, 0, NONE, NONE, 0);
    }

    private static void stepByStep() {
        says("It goes to each of STOPS in turn: in each STEP by one FLOOR");
        LeaversFloor x = made("", "", "907");
        int t = 0;
        for (int floor = 0; floor <= 9; floor++, t++) {
            due("up behind " + t, x.lift(t, 0), 2 * floor);
        }
        says("At the FLOOR of a STOP (also if it is there already) it HALTS for one STEP.");
        for (int floor = 9; floor >= 0; floor--, t++) {
            due("down behind " + t, x.lift(t, 0), 2 * floor);
        }
        for (int floor = 0; floor <= 7; floor++, t++) {
            due("up again behind " + t, x.lift(t, 0), 2 * floor);
        }
        says("Behind the last one it stays.");
        due("ends", x.ends(), t);
        due("halted", x.lift(t, 0), 14);
        due("stays", x.lift(255, 0), 14);
        says("At the FLOOR of a STOP (also if it is there already)");
        due("once", made("", "", "0").ends(), 1);
        due("twenty times", made("", "", times("0", 20)).ends(), 20);
        due("three times above", made("", "", "333").ends(), 6);
        x = made("901", "", "000", 4, 8);
        ridesIs(x, 0, NONE, NONE, 3);
        says("behind how many STEPS it stays");
        due("the longest way", made("", "", times("90", 10)).ends(), 200);
        due("with a halt at HALF each way", made("999", "000", times("90", 10), 4, 3).ends(), 220);
        x = made("999", "000", times("90", 10), 4, 3);
        due("not yet there", x.lift(218, 0), 2);
        due("there", x.lift(219, 0), 0);
    }

    private static void limitOfAbsences() {
        says("by numbers of LEAVERS, each if all that ride are then not HEAVIER than LIMIT together");
        // Halves are 4, 4 and 1: with LIMIT 5 the first and the last get in.
        LeaversFloor x = made("855;955;255", "000;001;002", "5405", 4, 5);
        liftIs(x, 5, 9, 5, 0, 5);
        says("others wait on (and it passes)");
        liftIs(x, 6, 10, 5, 0, 5);
        liftIs(x, 7, 10, 5, 0, 5);
        liftIs(x, 8, 9, 5, 0, 5);
        liftIs(x, 9, 8, 5, 0, 5);
        liftIs(x, 14, 0, 5, 0, 5);
        liftIs(x, 15, 0, 0, 0, 0);
        liftIs(x, 20, 9, 4, 0, 2);
        due("ends", x.ends(), 22);
        says("not HEAVIER than LIMIT");
        due("as heavy as LIMIT", made("855;955", "000;001", "5", 4, 8).lift(5, 3), 3);
        due("one heavier", made("855;955", "000;001", "5", 4, 7).lift(5, 3), 1);
        due("alone as heavy", made("855", "000", "5", 4, 4).lift(5, 3), 1);
        due("alone heavier", made("855", "000", "5", 4, 3).lift(5, 3), 0);
        due("it halts for it all the same", made("855", "000", "5", 4, 3).ends(), 7);
        says("by numbers of LEAVERS");
        due("not by steps", made("855;955", "030;001", "5", 4, 4).lift(5, 3), 1);
        due("not by riders", made("855;655", "001;000", "5", 4, 4).lift(5, 3), 1);
        due("nor by riders the other way", made("855;655", "001;000", "5", 4, 4).lift(5, 1), 3);
        says("all that ride together: a RIDER too");
        x = made("509;255", "001", "09", 4, 6);
        liftIs(x, 6, 9, 6, 1, 1);
        x.set(1, 5);
        liftIs(x, 6, 9, 5, 1, 0);
        says("An ABSENCE is half as HEAVY (cut): one of no weight gets in at the LIMIT");
        liftIs(made("105", "000", "05", 4, 1), 6, 9, 1, 1, 1);
    }

    private static void limitOfRiders() {
        says("LIMIT (20 at first)");
        LeaversFloor x = made("909;909;209", "", "0");
        liftIs(x, 1, 0, 20, 7, 0);
        fullIs(x, NONE, NONE);
        x = made("909;909;309", "", "0");
        liftIs(x, 1, 0, 18, 3, 0);
        fullIs(x, 1, 2);
        says("LIMIT (1 to 60)");
        ridesIs(made("109", "", "0", 4, 1), 0, 1, NONE, 0);
        ridesIs(made("209", "", "0", 4, 1), 0, NONE, NONE, 1);
        x = made(times("909;", 6) + "609;109", "", "0", 4, 60);
        liftIs(x, 1, 0, 60, 127, 0);
        ridesIs(x, 7, NONE, NONE, 1);
        says("then RIDERS who are to go FROM there get in by numbers, likewise; who does not is REFUSED (and waits on)");
        x = made("809;809;109", "", "00909", 4, 9);
        liftIs(x, 1, 0, 9, 5, 0);
        fullIs(x, 1, 1);
        // Refused behind 1 and 2; the others arrive behind 12; rider 1 gets in behind 22.
        ridesIs(x, 1, 22, 32, 2);
        ridesIs(x, 0, 1, 12, 0);
    }

    private static void whoGetsOut() {
        says("RIDERS whose TO it is get out (they have ARRIVED)");
        LeaversFloor x = made("112", "", "212");
        ridesIs(x, 0, 5, 7, 0);
        due("not by waiting elsewhere", x.arrived(3), 0);
        due("nor ahead of the halt", x.arrived(6), 0);
        due("as it halts", x.arrived(7), 1);
        says("get out; then RIDERS get in");
        x = made("501;512", "", "012", 4, 5);
        liftIs(x, 3, 2, 5, 2, 0);
        ridesIs(x, 1, 3, 5, 0);
        says("at FLOOR 0 all ABSENCES, too; then RIDERS");
        x = made("955;609", "000", "50", 4, 6);
        liftIs(x, 7, 10, 4, 0, 1);
        liftIs(x, 12, 0, 4, 0, 1);
        liftIs(x, 13, 0, 6, 2, 0);
        ridesIs(x, 1, 13, NONE, 0);
        x = made("955;855;109", "000;001", "50");
        liftIs(x, 12, 0, 8, 0, 3);
        liftIs(x, 13, 0, 1, 4, 0);
        says("gets out at the street: its ABSENCE does not wait again");
        x = made("255", "000", "505");
        due("ends", x.ends(), 19);
        liftIs(x, 17, 8, 0, 0, 0);
        liftIs(x, 18, 10, 0, 0, 0);
        due("nor behind two halts there", made("255", "000", "5005").ends(), 20);
        // One gets out behind 13, the other, in behind 18, behind 26; none waits behind 30.
        x = made("255;455", "000;131", "50505");
        liftIs(x, 18, 9, 2, 0, 2);
        liftIs(x, 26, 0, 0, 0, 0);
        due("neither of two", x.ends(), 32);
        says("passing FLOOR 0 is not needed: it HALTS there only at a STOP");
        liftIs(made("255", "000", "51"), 255, 2, 1, 0, 1);
    }

    private static void notRiddenYet() {
        says("who are to go FROM there, and have not ridden yet");
        LeaversFloor x = made("102;903", "", "0202", 4, 9);
        ridesIs(x, 0, 1, 4, 0);
        ridesIs(x, 1, 7, NONE, 1);
        liftIs(x, 7, 0, 9, 2, 0);
        says("and have not ridden yet: who rides is not REFUSED");
        x = made("109", "", "00", 4, 1);
        ridesIs(x, 0, 1, NONE, 0);
        fullIs(x, NONE, NONE);
        liftIs(x, 2, 0, 1, 1, 0);
        says("Who is to go TO where it is has ARRIVED ahead of all (behind 0 STEPS).");
        x = made("900;933;155", "", "0035", 4, 1);
        for (int r = 0; r < 3; r++) {
            ridesIs(x, r, NONE, 0, 0);
        }
        due("behind 0", x.arrived(0), 7);
        due("in the end", x.arrived(255), 7);
        due("nobody rides", x.lift(2, 2), 0);
        fullIs(x, NONE, NONE);
        due("count 6", x.count(6), 3);
    }

    // ---- part 2

    private static void firstRefused() {
        says("FULL: behind how many STEPS one is REFUSED first; who; NONE");
        fullIs(made("209;309", "", "0", 4, 1), 1, 0);
        fullIs(made("109;309;409", "", "0", 4, 1), 1, 1);
        fullIs(made("239;309", "", "103", 4, 2), 4, 1);
        fullIs(made("239;309", "", "1303", 4, 1), 5, 0);
        fullIs(made("209", "", "", 4, 1), NONE, NONE);
        fullIs(made("209", "", "9", 4, 1), NONE, NONE);
        says("FULL: an ABSENCE that waits on is not REFUSED");
        fullIs(made("999", "000", "9", 4, 1), NONE, NONE);
        says("how many times it is REFUSED");
        ridesIs(made("209", "", times("0", 20), 4, 1), 0, NONE, NONE, 20);
        ridesIs(made("209", "", "0", 4, 1), 0, NONE, NONE, 1);
    }

    private static void knowsIs(LeaversFloor x, int rider, int knows, int hears) {
        due("rider " + rider + " knows", x.knows(rider, 0), knows);
        due("rider " + rider + " hears", x.knows(rider, 1), hears);
    }

    private static void knowing() {
        says("those whose ABSENCE rides with it behind some number of STEPS (also its own)");
        knowsIs(made("109", "000", "09"), 0, 1, 1);
        says("KNOWS: none that rode ahead, or later");
        LeaversFloor x = made("109;255;104", "001", "505");
        // The absence gets out at 0 behind 13, as riders 0 and 2 get in.
        knowsIs(x, 0, 0, 0);
        knowsIs(x, 1, 0, 0);
        says("behind some number of STEPS: one is enough");
        x = made("110;255", "001", "510");
        liftIs(x, 12, 2, 2, 1, 1);
        liftIs(x, 14, 0, 0, 0, 0);
        knowsIs(x, 0, 1, 1);
        says("rides with it: a RIDER who has got out at HALF's FLOOR ahead of it does not");
        knowsIs(made("104;255", "001", "045"), 0, 0, 0);
        says("as bits");
        x = made("109;255", times("001;", 7) + "001", "09");
        knowsIs(x, 0, 255, 255);
        knowsIs(x, 1, 0, 0);
    }

    private static void hearing() {
        says("those of which any who rides with it has heard by then, or ahead");
        // Rider 0 in at 5 behind 7 with the absence, which is out at 0 behind 13 as rider 1 gets in.
        LeaversFloor x = made("152;103;255;123", "002", "5023");
        knowsIs(x, 0, 1, 1);
        knowsIs(x, 1, 0, 1);
        knowsIs(x, 2, 0, 0);
        // Rider 0 is out at 2 as rider 3 gets in, who hears of it from rider 1.
        knowsIs(x, 3, 0, 1);
        says("any who rides with it behind some number of STEPS: not one who gets out as it gets in");
        say(x, 0, "150;103;255;123");
        knowsIs(x, 0, 1, 1);
        knowsIs(x, 1, 0, 0);
        knowsIs(x, 3, 0, 0);
        says("has heard by then: not what it hears later");
        x = made("109;104", "000", "0459");
        knowsIs(x, 0, 1, 1);
        knowsIs(x, 1, 0, 0);
    }

    // ---- part 3

    private static void moreIs(LeaversFloor x, int many, int first, int second) {
        due("how many", x.more(NONE), many);
        due("the first", x.more(0), first);
        due("the second", x.more(1), second);
    }

    private static void moreStops() {
        says("MORE: the fewest STOPS more (0 to 2) by which all RIDERS have ARRIVED");
        moreIs(made("", "", ""), 0, NONE, NONE);
        moreIs(made("900;999", "", ""), 0, NONE, NONE);
        moreIs(made("109", "", "09"), 0, NONE, NONE);
        moreIs(made("109", "", "0"), 1, 9, NONE);
        moreIs(made("190", "", "9"), 1, 0, NONE);
        moreIs(made("109", "", ""), 2, 0, 9);
        moreIs(made("190", "", ""), 2, 9, 0);
        moreIs(made("109;108", "", "0"), 2, 8, 9);
        moreIs(made("109;108;107", "", "0"), NONE, NONE, NONE);
        moreIs(made("109;108", "", ""), NONE, NONE, NONE);
        says("MORE: NONE, as one is too heavy for ever");
        moreIs(made("909", "", "0", 4, 8), NONE, NONE, NONE);
        says("of like ones the least row");
        moreIs(made("103;102", "", "0"), 2, 2, 3);
        moreIs(made("142;109", "", "0"), NONE, NONE, NONE);
        moreIs(made("142;109", "", "04"), 2, 2, 9);
        moreIs(made("100;109", "", "0"), 1, 9, NONE);
        says("behind those that are: twenty, too");
        moreIs(made("109", "", times("9", 20)), 2, 0, 9);
        moreIs(made("190", "", times("9", 20)), 1, 0, NONE);
        for (int n = 0; n < 20; n++) {
            moreIs(made("109", "", times("9", n) + "0" + times("1", 19 - n)), 1, 9, NONE);
        }
        moreIs(made("909;209", "", times("0", 20), 4, 10), NONE, NONE, NONE);
        moreIs(made("909;209", "", times("0", 18) + "90", 4, 10), 1, 9, NONE);
    }

    private static void leaveIs(LeaversFloor x, int rider, int many, int first, int second) {
        due("how many", x.leave(rider, 0, NONE), many);
        due("the first", x.leave(rider, 0, 0), first);
        due("the second", x.leave(rider, 0, 1), second);
    }

    private static void leavingOut() {
        says("the fewest STOPS (0 to 2) left out, so that it HEARS nothing of that one");
        String riders = "503;202";
        leaveIs(made(riders, "000", "", 0, 20), 1, 0, NONE, NONE);
        leaveIs(made(riders, "000", "0", 0, 20), 1, 0, NONE, NONE);
        leaveIs(made(riders, "000", "03", 0, 20), 1, 1, 0, NONE);
        leaveIs(made(riders, "000", times("0", 19) + "3", 0, 20), 1, 1, 19, NONE);
        leaveIs(made(riders, "000", times("0", 18) + "33", 0, 20), 1, 2, 18, 19);
        leaveIs(made(riders, "000", times("0", 17) + "333", 0, 20), 1, NONE, NONE, NONE);
        says("of like ones the least row of places in STOPS (each more than the one ahead)");
        leaveIs(made(riders, "000", "0033", 0, 20), 1, 2, 0, 1);
        leaveIs(made(riders, "000", "003", 0, 20), 1, 1, 2, NONE);
        leaveIs(made("235", "000", "1359"), 0, 1, 1, NONE);
        leaveIs(made("235", "000", "13359"), 0, 2, 1, 2);
        leaveIs(made("235", "000", "13339"), 0, 1, 4, NONE);
        for (int n = 0; n < 19; n++) {
            leaveIs(made("135", "000", times("2", n) + "3" + times("2", 18 - n) + "5"), 0, 1, n, NONE);
        }
        says("HEARS nothing of that one: hearing is what counts, not knowing");
        // Rider 1 gets in at 0 as the absence gets out, and hears of it from rider 0 alone.
        LeaversFloor x = made("152;103;255", "002", "502");
        due("it does not know", x.knows(1, 0), 0);
        due("it hears", x.knows(1, 1), 1);
        leaveIs(x, 1, 1, 0, NONE);
        says("LEAVE OUT for a RIDER and a LEAVER: of each its own");
        // Leaver 0 is in behind 5 and rides with rider 1, leaver 1 behind 18 with rider 0.
        x = made("109;150;255;455", "002;133", "509");
        due("rider 0 knows", x.knows(0, 0), 2);
        due("rider 1 knows", x.knows(1, 0), 1);
        due("rider 0 of leaver 0: it hears nothing", x.leave(0, 0, NONE), 0);
        due("rider 1 of leaver 1: it hears nothing", x.leave(1, 1, NONE), 0);
        due("rider 1 of leaver 0", x.leave(1, 0, NONE), 1);
        due("it does not get in", x.leave(1, 0, 0), 0);
        due("rider 0 of leaver 1", x.leave(0, 1, NONE), 1);
        due("it is past HALF ahead of 13", x.leave(0, 1, 0), 0);
        due("rider 2 of leaver 0", x.leave(2, 0, NONE), 0);
        says("LEAVE OUT for the last RIDER and the last LEAVER");
        x = made(times("255;", 7) + "109", times("990;", 7) + "007", "09");
        due("it hears", x.knows(7, 1), 128);
        due("how many", x.leave(7, 7, NONE), 1);
        due("the first", x.leave(7, 7, 0), 0);
        due("another leaver", x.leave(7, 6, NONE), 0);
        due("another rider", x.leave(6, 7, NONE), 0);
        says("LEAVE OUT for a LEAVER of which there is no RIDER");
        leaveIs(made(riders, "007", "03", 0, 20), 1, 0, NONE, NONE);
    }

    // ---- part 4

    private static void whatWasSeen() {
        says("SEEN, 8 at most: behind so many STEPS (0 to 255) all that rode were so HEAVY (0 to 999)");
        LeaversFloor x = small();
        due("0 and 0", x.seen(0, 0), 1);
        due("it comes out so", x.never(), 1);
        due("255 and 2", x.seen(255, 2), 2);
        due("it comes out so", x.never(), 1);
        due("forget", x.forget(), 2);
        due("255 and 3", x.seen(255, 3), 1);
        due("it does not come out so", x.never(), 0);
        due("but with the absence of rider 1", x.who(0), 2);
        x.forget();
        due("0 and 999", x.seen(0, 999), 1);
        due("it does not come out so", x.never(), 0);
        x.forget();
        says("all that was SEEN come out so: the eighth, too");
        for (int n = 1; n <= 7; n++) {
            due("like ones", x.seen(1, 7), n);
        }
        due("seven", x.never(), 1);
        due("the eighth", x.seen(1, 8), 8);
        due("eight", x.never(), 0);
        due("who", x.who(0), 0);
        due("a ninth", x.seen(1, 7), FULL);
        due("forget", x.forget(), 8);
        says("SEEN, 8 at most: a ninth is not SEEN");
        for (int n = 1; n <= 8; n++) {
            x.seen(1, 7);
        }
        due("a ninth", x.seen(1, 8), FULL);
        due("it does not count", x.never(), 1);
        due("forget", x.forget(), 8);
        due("nothing to forget", x.forget(), 0);
        says("BAD: it is not SEEN");
        due("steps 256", x.seen(256, 0), BAD);
        due("heavy 1000", x.seen(0, 1000), BAD);
        due("count", x.count(7), 0);
        due("never", x.never(), 1);
    }

    private static void neverAndWho() {
        says("NEVER: LEAVERS each of which, had it alone not been, makes all that was SEEN come out so");
        // Halves 4, 3 and 1 get in behind 5: 8 in all; 4, 5 and 7 without the first, second, third.
        LeaversFloor x = made("855;655;255", "000;001;002", "5");
        due("nothing was SEEN", x.never(), 7);
        int[][] sights = {{4, 1}, {5, 2}, {7, 4}, {8, 0}, {0, 0}, {3, 0}};
        for (int[] sight : sights) {
            x.seen(5, sight[0]);
            due("so heavy: " + sight[0], x.never(), sight[1]);
            x.forget();
        }
        says("NEVER: two alike");
        x = made("855;955", "000;001", "5");
        x.seen(5, 4);
        due("either", x.never(), 3);
        says("NEVER: of eight LEAVERS the last");
        x = made("955;255", times("001;", 7) + "000", "5");
        x.seen(5, 7);
        due("the last", x.never(), 128);
        says("NEVER: by all of twenty STOPS");
        for (int n = 0; n < 20; n++) {
            // Rider 1 gets in at 3 at its one stop there and rides on.
            x = made("200;139", "000", times("0", n) + "3" + times("4", 19 - n));
            x.seen(255, 1);
            due("with a stop at 3 as number " + n, x.never(), 1);
            due("with either", x.who(0), 3);
            x.seen(255, 0);
            due("not both", x.never(), 0);
        }
        says("NEVER: had it not been, the lift does not HALT for it");
        x = made("255", "000", "5");
        x.seen(4, 0);
        x.seen(5, 0);
        due("so it was", x.never(), 1);
        says("WHO of a LEAVER: RIDERS (that there are) in place of its own, likewise, as bits");
        x = made("855;655;255", "000;007", "5");
        due("nothing was SEEN", x.who(0), 7);
        due("nor of one without a rider", x.who(1), 7);
        x.seen(5, 3);
        due("rider 1", x.who(0), 2);
        due("of the other, none", x.who(1), 0);
        x.forget();
        x.seen(5, 7);
        due("4 and 3", x.who(1), 2);
        x.forget();
        x.seen(5, 8);
        due("4 and 4", x.who(1), 1);
        x.forget();
        x.seen(5, 4);
        due("its own", x.who(0), 1);
        says("WHO: in place of its own, the other LEAVERS as they are");
        // Halves are 4, 3 and 1: the two that left make 7.
        x = made("855;655;255", "000;001", "5");
        int[][] whos = {{8, 0, 1}, {7, 1, 2}, {6, 2, 0}, {5, 0, 4}, {4, 4, 0}, {3, 0, 0}};
        for (int[] who : whos) {
            x.seen(5, who[0]);
            due("of the first, as heavy as " + who[0], x.who(0), who[1]);
            due("of the second, as heavy as " + who[0], x.who(1), who[2]);
            x.forget();
        }
        says("WHO: of eight RIDERS the last");
        x = made(times("255;", 7) + "955", "000", "5");
        x.seen(5, 4);
        due("the last", x.who(0), 128);
    }

    private static void weighing() {
        says("WEIGH: the number of STEPS (0 to 99)");
        // Floor 9 behind 90 steps and one more for each 9; HALF behind 5 steps more.
        String late = times("90", 4) + "9";
        LeaversFloor x = made("299;499", "900;901", late + "9999" + "0");
        due("behind 98 all are alike", x.lift(98, 3), 0);
        due("behind 99 they differ", x.weigh(), 99);
        x = made("299;499", "900;901", late + "99999" + "0");
        due("behind 100 is too late", x.weigh(), 0);
        says("WEIGH: of like ones the least");
        due("they differ from 5 on", made("255;455", "000;001", "59").weigh(), 5);
        due("they do not differ", made("255;255", "000;001", "59").weigh(), 0);
        due("one alone", made("255", "000", "59").weigh(), 0);
        due("none", made("255", "", "59").weigh(), 0);
        says("WEIGH: of which the greatest number of those LEAVERS alike HEAVY then is least");
        // Behind 5 it is 3 without the first or the second, and 2 without the third.
        x = made("255;455", "000;000;001", "59");
        due("two and one", x.weigh(), 5);
        // Behind 5 it is 1, 1, 2 and 2 without each; behind 17 it is 4, 4, 4 and 3.
        x = made("255;455", "000;000;060;061", "590");
        due("behind 5", x.lift(5, 1), 2);
        due("behind 17", x.lift(17, 1), 5);
        due("two and two are less than three and one", x.weigh(), 5);
        // Behind 5 it is 0, 1, 1 and 1; behind 17 it is 5, 5, 4 and 4.
        x = made("255;455", "000;060;061;061", "590");
        due("behind 5", x.lift(5, 1), 1);
        due("behind 17", x.lift(17, 1), 6);
        due("three and one are more than two and two", x.weigh(), 17);
        says("WEIGH: of eight LEAVERS seven alike are less than eight");
        // Without 0: 2 behind 5, 5 behind 11; without 1: 0 behind 5, 3 behind 11. Nothing else is weighed with them.
        due("one weighs nothing", made("144;444;398", "000;001", "9").weigh(), 5);
        x = made("144;444;398", "000;001;002", "9");
        due("three: 3, 1 and 2 behind 5", x.weigh(), 5);
        say(x, 1, "000;001");
        due("the third of them is gone", x.weigh(), 5);
        due("one of eight", made("255;455", times("000;", 7) + "001", "59").weigh(), 5);
        due("the first of eight", made("255;455", "001" + times(";000", 7), "59").weigh(), 5);
        due("no one of eight", made("255", "000" + times(";000", 7), "59").weigh(), 0);
        says("WEIGH: as the lift HALTS for the last time, too");
        // Without leaver 0 rider 1 gets in behind 6, without leaver 1, who is nobody, behind 7.
        due("behind 6", made("155;259", "000;007", "5").weigh(), 6);
        says("those LEAVERS: only who perhaps never left, by what was SEEN");
        x = made("255;455;855", "000;001;002", "59");
        due("all three differ", x.weigh(), 5);
        x.seen(5, 7);
        due("none is left", x.weigh(), 0);
        x.forget();
        x.seen(5, 3);
        due("the last alone is left", x.weigh(), 0);
        // The first two are alike, without the third it is 2: by what was seen it was not the third.
        x = made("255;455", "000;000;001", "59");
        x.seen(5, 3);
        due("two alike are left", x.weigh(), 0);
    }

    private static void maybeIs(LeaversFloor x, int c, int steps, long above, long below) {
        due("above by " + c + " behind " + steps, x.maybe(c, 0, steps, 0), above);
        due("below by " + c + " behind " + steps, x.maybe(c, 0, steps, 1), below);
    }

    private static void chances() {
        says("each LEAVER leaves by c sixteenths (0 to 16), by itself");
        // Rider 0 arrives behind 7, or behind 8 if any of the leavers leaves.
        LeaversFloor x = made("105", "000", "05");
        maybeIs(x, 0, 7, 1, 1);
        maybeIs(x, 1, 7, 15, 16);
        maybeIs(x, 8, 7, 1, 2);
        maybeIs(x, 12, 7, 1, 4);
        maybeIs(x, 15, 7, 1, 16);
        maybeIs(x, 16, 7, 0, 1);
        says("(0 to 255): a FRACTION; FRACTIONS are told in lowest terms, above and below (0 by 1)");
        maybeIs(x, 8, 0, 0, 1);
        maybeIs(x, 8, 6, 0, 1);
        maybeIs(x, 8, 8, 1, 1);
        maybeIs(x, 16, 255, 1, 1);
        says("by itself: eight of them");
        say(x, 1, times("000;", 7) + "000");
        maybeIs(x, 0, 7, 1, 1);
        maybeIs(x, 1, 7, 2562890625L, 4294967296L);
        maybeIs(x, 8, 7, 1, 256);
        maybeIs(x, 15, 7, 1, 4294967296L);
        maybeIs(x, 16, 7, 0, 1);
        maybeIs(x, 1, 8, 1, 1);
        says("by itself: one that waits on changes nothing");
        say(x, 1, "007;990;000");
        maybeIs(x, 5, 7, 11, 16);
        says("the chance that a RIDER has ARRIVED: of each its own");
        // Rider r goes to r + 1 and arrives behind 2 r + 3, one later if the leaver leaves and it is past HALF.
        x = made("109;102;103;104;105;106;107;108", "000", "012345678");
        due("rider 0 never", x.maybe(4, 0, 255, 0), 0);
        for (int r = 1; r < 8; r++) {
            int behind = 2 * r + 3;
            due("rider " + r + " not yet", x.maybe(4, r, behind - 1, 0), 0);
            due("rider " + r + " above", x.maybe(4, r, behind, 0), r < 4 ? 1 : 3);
            due("rider " + r + " below", x.maybe(4, r, behind, 1), r < 4 ? 1 : 4);
            due("rider " + r + " surely", x.maybe(4, r, behind + 1, 1), 1);
        }
        x = made(times("105;", 7) + "109", "000", "05");
        for (int r = 0; r < 8; r++) {
            due("rider " + r + " of eight, above", x.maybe(4, r, 7, 0), r < 7 ? 3 : 0);
            due("rider " + r + " of eight, below", x.maybe(4, r, 7, 1), r < 7 ? 4 : 1);
            due("rider " + r + " of eight, in the end", x.maybe(4, r, 255, 0), r < 7 ? 1 : 0);
        }
        says("the chance, by all of twenty STOPS");
        for (int n = 1; n < 20; n++) {
            maybeIs(made("104", "000", "0" + times("0", n - 1) + "4" + times("0", 19 - n)), 8, n + 4, 0, 1);
            maybeIs(made("104", "000", "0" + times("0", n - 1) + "4" + times("0", 19 - n)), 8, n + 5, 1, 1);
        }
        says("has ARRIVED ahead of all (behind 0 STEPS)");
        maybeIs(made("955", "", ""), 3, 0, 1, 1);
        says("MAYBE: no STOPS");
        maybeIs(made("105", "000", ""), 3, 255, 0, 1);
    }

    private static void days() {
        says("SEED becomes 1103515245 SEED and 12345, as ints that wrap; its upper 16 bits as a number from 0 on");
        LeaversFloor x = new LeaversFloor();
        // 12345: 0. 2^31 and 12345: 32768, 8. 2^31 - 1103515245 + 12345: 15929, 9. -1103515245 + 12345: 48697, 7.
        due("seed 0", x.day(0, 1, 1), 0 + 1);
        due("the least seed", x.day(Integer.MIN_VALUE, 1, 1), 8 + 1);
        due("the greatest seed", x.day(Integer.MAX_VALUE, 1, 1), 9 + 1);
        due("seed -1", x.day(-1, 1, 1), 7 + 1);
        says("n LOTS of 10 (1 to 20) are STOPS");
        for (int seed : new int[] {0, 1, -1, 7, Integer.MIN_VALUE, Integer.MAX_VALUE, 65535, 65536, -65536}) {
            BigInteger state = BigInteger.valueOf(seed);
            BigInteger range = BigInteger.ONE.shiftLeft(32);
            int at = 0;
            int ends = 0;
            for (int n = 1; n <= 20; n++) {
                state = state.multiply(BigInteger.valueOf(1103515245)).add(BigInteger.valueOf(12345)).mod(range);
                int lot = state.shiftRight(16).mod(BigInteger.TEN).intValue();
                ends += Math.abs(lot - at) + 1;
                at = lot;
                due(n + " lots of " + seed, x.day(seed, n, 1), ends);
            }
            due("21 lots", x.day(seed, 21, 1), BAD);
            due("no lots", x.day(seed, 0, 1), BAD);
        }
        says("in place of those told: how many RIDERS have ARRIVED in the end");
        // Lots of seed 0 are 0, 6, 6; of seed -1 the first is 7.
        x = made("106;955;160;909", "", "0909", 4, 10);
        due("one lot: who is there", x.day(0, 1, 0), 1);
        due("two lots: one more", x.day(0, 2, 0), 2);
        due("as told", x.count(6), 2);
        due("as told it ends", x.ends(), 31);
        due("stops are those told", x.stop(1), 9);
        says("DAY: no RIDERS");
        due("none arrives", new LeaversFloor().day(0, 20, 0), 0);
        says("DAY: it HALTS at HALF, too");
        due("to 7 past HALF", made("299", "000", "").day(-1, 1, 1), 7 + 1 + 1);
    }

    // ---- sheets

    private static void formsOfSheets() {
        says("a row of a FORM: 0 bytes, 1 shorts, 2 ints, of 0 to 60 items (0 at first)");
        LeaversFloor x = new LeaversFloor();
        for (int s = 0; s < 4; s++) {
            for (int form = 0; form < 3; form++) {
                due("60 items", x.sheet(s, form, 60), 60);
                due("the first", x.get(s, form, 0), 0);
                due("the last", x.get(s, form, 59), 0);
                due("put at the last", x.put(s, form, 59, 5), 1);
                due("it is there", x.get(s, form, 59), 5);
                due("behind the last", x.get(s, form, 60), LEAST);
                due("lose", x.lose(s), 60);
                due("no items", x.sheet(s, form, 0), 0);
                due("not even a first", x.put(s, form, 0, 1), INDEX);
                due("lose", x.lose(s), 0);
                due("a new row", x.sheet(s, form, 60), 60);
                due("0 at first", x.get(s, form, 59), 0);
            }
        }
        says("A SHEET is a new row of a FORM with n items");
        x = new LeaversFloor();
        x.sheet(0, 2, 3);
        x.put(0, 2, 2, 77);
        due("anew", x.sheet(0, 2, 3), 3);
        due("0 at first", x.get(0, 2, 2), 0);
        due("as bytes now", x.sheet(0, 0, 1), 1);
        due("as ints no more", x.get(0, 2, 0), LEAST);
        due("CAST", x.count(8), 3);
    }

    private static void kept(LeaversFloor x, int form, int v, int want) {
        due("put " + v, x.put(form, form, 1, v), 1);
        due("of " + v, x.get(form, form, 1), want);
        due("the one ahead", x.get(form, form, 0), 0);
        due("the next", x.get(form, form, 2), 0);
    }

    private static void lowestBits() {
        says("Item i, treated as of a FORM, becomes v (the lowest bits that it has)");
        LeaversFloor x = new LeaversFloor();
        for (int form = 0; form < 3; form++) {
            x.sheet(form, form, 3);
        }
        int[][] bytes = {{127, 127}, {128, -128}, {255, -1}, {256, 0}, {-128, -128}, {-129, 127}, {-1, -1},
            {Integer.MAX_VALUE, -1}, {LEAST, 0}};
        int[][] shorts = {{127, 127}, {128, 128}, {32767, 32767}, {32768, -32768}, {65535, -1}, {65536, 0},
            {-32768, -32768}, {-32769, 32767}, {Integer.MAX_VALUE, -1}, {LEAST, 0}};
        int[][] ints = {{32768, 32768}, {65536, 65536}, {Integer.MAX_VALUE, Integer.MAX_VALUE}, {LEAST, LEAST}, {-1, -1}};
        int[][][] all = {bytes, shorts, ints};
        for (int form = 0; form < 3; form++) {
            for (int[] pair : all[form]) {
                kept(x, form, pair[0], pair[1]);
            }
        }
        says("an int that is the least one is no refusal");
        due("no FINDING", x.count(8), 0);
    }

    private static void fill(LeaversFloor x, int s, int form, int... items) {
        x.sheet(s, form, items.length);
        for (int i = 0; i < items.length; i++) {
            x.put(s, form, i, items[i]);
        }
    }

    private static void itemsAre(LeaversFloor x, int s, int form, int... items) {
        for (int i = 0; i < items.length; i++) {
            due("item " + i + " of sheet " + s, x.get(s, form, i), items[i]);
        }
        due("and no more", x.get(s, form, items.length), LEAST);
    }

    private static void copies() {
        says("n items of SHEET s, from i on, come to SHEET t (perhaps s, as they were), from j on");
        LeaversFloor x = new LeaversFloor();
        fill(x, 0, 2, 1, 2, 3, 4, 5);
        fill(x, 1, 2, 9, 9, 9);
        due("all that t holds", x.copy(0, 2, 1, 0, 3), 1);
        itemsAre(x, 1, 2, 3, 4, 5);
        due("no more than s has", x.copy(0, 3, 1, 0, 3), INDEX);
        due("no more than t holds", x.copy(0, 0, 1, 0, 4), INDEX);
        due("not from j on", x.copy(0, 0, 1, 1, 3), INDEX);
        itemsAre(x, 1, 2, 3, 4, 5);
        due("one", x.copy(0, 0, 1, 2, 1), 1);
        itemsAre(x, 1, 2, 3, 4, 1);
        due("none", x.copy(0, 0, 1, 0, 0), 1);
        due("none, from the ends on", x.copy(0, 5, 1, 3, 0), 1);
        due("none, behind the end of s", x.copy(0, 6, 1, 0, 0), INDEX);
        due("none, behind the end of t", x.copy(0, 0, 1, 4, 0), INDEX);
        itemsAre(x, 1, 2, 3, 4, 1);
        due("on itself, up", x.copy(0, 0, 0, 1, 4), 1);
        itemsAre(x, 0, 2, 1, 1, 2, 3, 4);
        due("on itself, down", x.copy(0, 1, 0, 0, 4), 1);
        itemsAre(x, 0, 2, 1, 2, 3, 4, 4);
        due("on itself, the same", x.copy(0, 0, 0, 0, 5), 1);
        itemsAre(x, 0, 2, 1, 2, 3, 4, 4);
        x.sheet(2, 0, 60);
        x.sheet(3, 0, 60);
        x.put(2, 0, 59, -7);
        due("sixty", x.copy(2, 0, 3, 0, 60), 1);
        due("the last", x.get(3, 0, 59), -7);
        due("sums that wrap: i", x.copy(2, Integer.MAX_VALUE, 3, 0, 1), INDEX);
        due("sums that wrap: j", x.copy(2, 0, 3, Integer.MAX_VALUE, 1), INDEX);
        due("sums that wrap: n", x.copy(2, 1, 3, 1, Integer.MAX_VALUE), INDEX);
        x.sheet(2, 1, 0);
        x.sheet(3, 1, 0);
        due("empty ones", x.copy(2, 0, 3, 0, 0), 1);
        due("one of an empty one", x.copy(2, 0, 3, 0, 1), INDEX);
    }

    private static void writing() {
        says("What lift() tells behind 0 STEPS on comes to a SHEET from item 0 on, as many as there are items");
        LeaversFloor x = small();
        for (int what = 0; what < 4; what++) {
            x.sheet(what, 2, 60);
            due("sixty", x.write(what, what), 60);
            for (int t = 0; t < 60; t++) {
                due("lift " + what + " behind " + t, x.get(what, 2, t), x.lift(t, what));
            }
        }
        x = small();
        x.sheet(0, 2, 0);
        due("no items", x.write(0, 0), 0);
        x.sheet(0, 2, 1);
        due("one item", x.write(0, 0), 1);
        due("behind 0 steps", x.get(0, 2, 0), 0);
        says("comes to a SHEET from item 0 on: over what was there");
        fill(x, 0, 2, 7, 7, 7);
        due("three items", x.write(0, 0), 3);
        itemsAre(x, 0, 2, 0, 0, 1);
        says("the lowest bits that it has");
        x = made(times("155;", 7) + "109", "", "0");
        for (int form = 0; form < 3; form++) {
            x.sheet(form, form, 2);
            x.write(2, form);
            due("rider 7 alone, as form " + form, x.get(form, form, 1), form == 0 ? -128 : 128);
        }
    }

    private static void readIs(LeaversFloor x, int form, int read, int seen, int... items) {
        fill(x, 3, form, items);
        due("read", x.read(3), read);
        due("seen", x.forget(), seen);
    }

    private static void reading() {
        says("its items, two for each, as many as are whole, as long as each may be");
        LeaversFloor x = small();
        readIs(x, 2, 0, 0);
        readIs(x, 2, 0, 0, 0);
        readIs(x, 2, 1, 1, 0, 0);
        readIs(x, 2, 1, 1, 0, 0, 0);
        readIs(x, 2, 2, 2, 255, 999, 0, 0);
        readIs(x, 2, 0, 0, 256, 0, 0, 0);
        readIs(x, 2, 0, 0, 0, 1000, 0, 0);
        readIs(x, 2, 0, 0, -1, 0, 0, 0);
        readIs(x, 2, 0, 0, 0, -1, 0, 0);
        readIs(x, 2, 1, 1, 0, 0, 256, 0, 0, 0);
        readIs(x, 1, 1, 1, 255, 999);
        readIs(x, 0, 1, 1, 127, 127, -1, 0);
        readIs(x, 0, 8, 8, new int[16]);
        readIs(x, 0, 8, 8, new int[17]);
        readIs(x, 0, 8, 8, new int[18]);
        readIs(x, 0, 8, 8, new int[60]);
        says("SEEN, 8 at most");
        for (int n = 1; n <= 7; n++) {
            x.seen(0, 0);
        }
        readIs(x, 0, 1, 8, 0, 0, 0, 0);
        for (int n = 1; n <= 8; n++) {
            x.seen(0, 0);
        }
        readIs(x, 0, 0, 8, 0, 0);
        says("SEEN from a SHEET: what was read counts");
        fill(x, 0, 1, 255, 2, 255, 3);
        due("both", x.read(0), 2);
        due("they cannot both be", x.never(), 0);
        due("forget", x.forget(), 2);
        fill(x, 0, 1, 255, 2, 2, 7);
        due("both", x.read(0), 2);
        due("both are so without it", x.never(), 1);
    }

    // ---- counting

    private static void counting() {
        says("3 to 5 bytes of texts");
        LeaversFloor x = made("1", "22", "333");
        due("text 0", x.count(3), 1);
        due("text 1", x.count(4), 2);
        due("text 2", x.count(5), 3);
        due("riders of a text that is not ended", x.count(0), 0);
        due("leavers of a text that is not ended", x.count(1), 0);
        says("6 RIDERS who have ARRIVED in the end");
        due("all eight", made(times("101;", 7) + "101", "", "01").count(6), 8);
        due("none", made(times("101;", 7) + "101", "", "0").count(6), 0);
        says("8 the number of the latest FINDING (0 before any)");
        x = new LeaversFloor();
        due("before any", x.count(8), 0);
        x.sheet(0, 0, -1);
        due("SIZE", x.count(8), 5);
        x.sheet(0, 0, 1);
        x.sheet(1, 1, 1);
        due("a call that is well leaves it", x.count(8), 5);
        x.copy(0, 0, 1, 0, 1);
        due("STORE", x.count(8), 4);
        x.get(0, 1, 0);
        due("CAST", x.count(8), 3);
        x.get(0, 0, 1);
        due("INDEX", x.count(8), 2);
        x.get(2, 0, 0);
        due("NULL", x.count(8), 1);
    }

    private static BigInteger mixed(BigInteger h, long... parts) {
        for (long part : parts) {
            h = h.multiply(BigInteger.valueOf(31)).add(BigInteger.valueOf(part));
        }
        return h;
    }

    private static void digests() {
        says("as longs that wrap");
        LeaversFloor x = new LeaversFloor();
        BigInteger h = mixed(BigInteger.valueOf(17), 0, 0, 0, 0, 0, 0, 0, 0, -1, -1, -1);
        h = mixed(h, new long[20]);
        // Twelve lots of 7 are 2 6 8 4 1 3 4 0 5 1 3 1: 35 floors and 12 halts.
        h = mixed(h, 0, NONE, NONE, 0, NONE, 0, 0, BAD, BAD, LONG_BAD, LONG_BAD, 0, 47);
        due("a new one", x.digest(), h.longValue());
        says("h is 17; h becomes 31 h and each of");
        x = made("901;155", "000;137", "00", 4, 8);
        x.seen(20, 0);
        h = mixed(BigInteger.valueOf(17), 2, 2, 2, 7, 7, 2, 1, 1, NONE, NONE, NONE);
        h = mixed(h, 9, 0, 1, NONE, NONE, 2, 0, 0);
        h = mixed(h, 1, 5, 5, NONE, 0, 0, 0, 0);
        h = mixed(h, 0, 0, 3, 13, 7, 3);
        h = mixed(h, 0, 0);
        h = mixed(h, 0, 0, 0, 0, 2, 0, 0, 0, 0, 2, 0, 0, 0, 0, 2, 0, 0, 0, 0, 2);
        h = mixed(h, 2, 1, 0, NONE, NONE, 3, 0, 0, NONE, 0, 1, 1, 48);
        due("a heavy rider who waits", x.digest(), h.longValue());
        says("each of");
        // Rider 0 arrives behind 20, or behind 21 if the leaver leaves.
        x = made("209;104;355", "002", times("0", 10) + "9");
        due("not so late", x.maybe(5, 0, 20, 0), 11);
        digestIs(x);
        digestIs(made("209;104;355;128", "002;131;057", "0900"));
        digestIs(made("152;103;255;123", "002;000", "502"));
        digestIs(made("235;109;299", "000;042;011", "133509", 4, 9));
        digestIs(made("408;690;381;717;252;930;164;848", "030;051;202;103;404;605;006;157", "98017640305928170406", 3, 15));
        digestIs(made("408;690;381;717;252;930;164;848", "030;051;202;103;404;605;006;157", "98017640305928170406", 8, 60));
        digestIs(made("101;112;123;134;145;156;167;178", "000;001;002;003;004;005;006;007", "0123", 1, 1));
        digestIs(made("109;x", "000;", "12;"));
        // Of the lots of 7 the twelfth lets rider 1 out, and the next one, 0, would let rider 2 out.
        x = made("920;131;150", "", "", 4, 9);
        due("eleven lots", x.day(7, 11, 0), 1);
        due("twelve lots", x.day(7, 12, 0), 2);
        due("thirteen lots", x.day(7, 13, 0), 3);
        digestIs(x);
    }

    /** By the document's own words, out of what the other calls tell. */
    private static void digestIs(LeaversFloor x) {
        x.seen(9, x.lift(9, 1));
        BigInteger h = BigInteger.valueOf(17);
        for (int what = 0; what <= 7; what++) {
            h = mixed(h, x.count(what));
        }
        h = mixed(h, x.fault(0), x.fault(1), x.fault(2));
        for (int r = 0; r < x.count(0); r++) {
            h = mixed(h, x.rider(r, 0), x.rider(r, 1), x.rider(r, 2), x.rides(r, 0), x.rides(r, 1), x.rides(r, 2));
            h = mixed(h, x.knows(r, 0), x.knows(r, 1));
        }
        for (int l = 0; l < x.count(1); l++) {
            h = mixed(h, x.leaver(l, 0), x.leaver(l, 1), x.who(l));
        }
        for (int i = 0; i < x.count(2); i++) {
            h = mixed(h, x.stop(i));
        }
        for (int t : new int[] {0, 9, 20, 60}) {
            h = mixed(h, x.lift(t, 0), x.lift(t, 1), x.lift(t, 2), x.lift(t, 3), x.arrived(t));
        }
        h = mixed(h, x.ends(), x.full(0), x.full(1), x.more(NONE), x.more(0), x.never(), x.weigh());
        h = mixed(h, x.leave(0, 0, NONE), x.leave(0, 0, 0), x.maybe(5, 0, 20, 0), x.maybe(5, 0, 20, 1));
        h = mixed(h, x.day(7, 12, 0), x.day(7, 12, 1));
        due("digest", x.digest(), h.longValue());
    }

    public static void main(String[] args) {
        newObject();
        everyByteAtEveryPlace();
        everyLength();
        theFirstFault();
        roomOfTexts();
        noNinth();
        firstAndLastOfAll();
        asIfEmpty();
        settings();
        placeOfHalf();
        whereItPasses();
        fromItsStepOn();
        halfAsHeavy();
        bareAtFirst();
        stepByStep();
        limitOfAbsences();
        limitOfRiders();
        whoGetsOut();
        notRiddenYet();
        firstRefused();
        knowing();
        hearing();
        moreStops();
        leavingOut();
        whatWasSeen();
        neverAndWho();
        weighing();
        chances();
        days();
        formsOfSheets();
        lowestBits();
        copies();
        writing();
        reading();
        counting();
        digests();
        System.out.println(asked + " answers at the edges, " + wrong + " wrong");
        if (wrong != 0) {
            System.exit(1);
        }
    }
}
