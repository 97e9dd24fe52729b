import java.util.ArrayList;
import java.util.List;

/**
 * Answers follow what the object holds now, and nothing else: each question is asked first of a new
 * object, and of one that was asked everything ahead and then changed. Its twin was made so at once.
 */
public final class ChangesTest {
    private static int wrong = 0;
    private static int asked = 0;

    private interface Question {
        long of(LeaversFloor x);
    }

    private interface Change {
        void on(LeaversFloor x);
    }

    private static final String[][] HOUSES = {
        {"503;202;399", "000;001;997", "0305"},
        {"152;103;255;123", "002;131", "50290"},
        {"109;899;209;255", "001;003", "09090"},
        {"408;690;381;717;252;930;164;848", "030;051;202;103;404;605;006;157", "98017640305928170406"},
        {"", "000", "505"},
        {"100;955", "", "9"},
        {"101;112;123", "000;011", ""}};

    private static void due(String what, long got, long want) {
        asked++;
        if (got != want) {
            wrong++;
            if (wrong < 40) {
                System.out.println(what + " answered " + got + ", due is " + want);
            }
        }
    }

    private static void say(LeaversFloor x, int text, String bytes) {
        for (char b : bytes.toCharArray()) {
            x.type(text, b);
        }
    }

    private static LeaversFloor made(String[] house) {
        LeaversFloor x = new LeaversFloor();
        for (int text = 0; text < 3; text++) {
            say(x, text, house[text]);
        }
        return x;
    }

    /** Every question that looks at riders, leavers, stops or what was seen. */
    private static List<Question> questions() {
        List<Question> all = new ArrayList<>();
        all.add(x -> x.rider(0, 0));
        all.add(x -> x.leaver(0, 0));
        all.add(x -> x.stop(0));
        all.add(x -> x.lift(9, 0));
        all.add(x -> x.lift(9, 1));
        all.add(x -> x.lift(13, 2));
        all.add(x -> x.lift(13, 3));
        all.add(x -> x.ends());
        for (int i = 0; i < 3; i++) {
            int what = i;
            all.add(x -> x.rides(0, what));
            all.add(x -> x.rides(1, what));
            all.add(x -> x.count(what));
            all.add(x -> x.more(what - 1));
            all.add(x -> x.leave(0, 0, what - 1));
            all.add(x -> x.leave(1, 1, what - 1));
            all.add(x -> x.who(what));
            all.add(x -> x.fault(what));
        }
        for (int i = 0; i < 2; i++) {
            int what = i;
            all.add(x -> x.full(what));
            all.add(x -> x.knows(0, what));
            all.add(x -> x.knows(1, what));
            all.add(x -> x.maybe(5, 0, 20, what));
            all.add(x -> x.maybe(5, 1, 12, what));
            all.add(x -> x.day(7, 12, what));
        }
        all.add(x -> x.arrived(12));
        all.add(x -> x.arrived(255));
        all.add(x -> x.never());
        all.add(x -> x.weigh());
        all.add(x -> x.count(6));
        all.add(x -> x.count(7));
        all.add(x -> x.digest());
        all.add(x -> x.sheet(0, 2, 20) + 100L * x.write(0, 0) + 10000L * x.get(0, 2, 11));
        return all;
    }

    /** Each changes something once it is done on any of the houses. */
    private static List<Change> changes() {
        List<Change> all = new ArrayList<>();
        for (int i = 0; i < 3; i++) {
            int text = i;
            all.add(x -> x.wipe(text));
            all.add(x -> x.undo(text));
            all.add(x -> x.type(text, 'x'));
            all.add(x -> say(x, text, text == 2 ? "7" : text == 1 ? ";042" : ";107"));
            all.add(x -> {
                x.wipe(text);
                say(x, text, new String[] {"209;290;301", "001;002;000", "0904"}[text]);
            });
            all.add(x -> {
                x.type(text, ' ');
                x.count(0);
                x.undo(text);
            });
        }
        all.add(x -> x.set(0, 0));
        all.add(x -> x.set(0, 8));
        all.add(x -> x.set(1, 1));
        all.add(x -> x.set(1, 5));
        all.add(x -> x.set(1, 60));
        all.add(x -> x.seen(9, 1));
        all.add(x -> x.seen(255, 0));
        all.add(x -> {
            x.seen(9, 999);
            x.never();
            x.forget();
        });
        all.add(x -> {
            x.sheet(3, 1, 2);
            x.put(3, 1, 0, 12);
            x.put(3, 1, 1, 4);
            x.read(3);
        });
        return all;
    }

    private static void askAll(LeaversFloor x, List<Question> questions) {
        for (Question question : questions) {
            question.of(x);
        }
    }

    private static void askedFirst(List<Question> questions) {
        for (int h = 0; h < HOUSES.length; h++) {
            LeaversFloor late = made(HOUSES[h]);
            askAll(late, questions);
            for (int q = 0; q < questions.size(); q++) {
                String what = "house " + h + ", question " + q;
                long first = questions.get(q).of(made(HOUSES[h]));
                due(what + " behind all others", questions.get(q).of(late), first);
                LeaversFloor x = made(HOUSES[h]);
                questions.get(q).of(x);
                due(what + " asked again", questions.get(q).of(x), first);
            }
        }
    }

    private static void askedBehindAChange(List<Question> questions, List<Change> changes) {
        for (int h = 0; h < HOUSES.length; h++) {
            for (int c = 0; c < changes.size(); c++) {
                for (int d = 0; d < changes.size(); d++) {
                    LeaversFloor x = made(HOUSES[h]);
                    askAll(x, questions);
                    changes.get(c).on(x);
                    askAll(x, questions);
                    changes.get(d).on(x);
                    LeaversFloor twin = made(HOUSES[h]);
                    changes.get(c).on(twin);
                    changes.get(d).on(twin);
                    // Turned round, so that each question is sometimes the first behind a change.
                    for (int q = 0; q < questions.size(); q++) {
                        Question question = questions.get((q + 7 * c + d) % questions.size());
                        String what = "house " + h + ", changes " + c + " and " + d + ", question " + q;
                        due(what, question.of(x), question.of(twin));
                    }
                }
            }
        }
    }

    /** 512 calls in all: 12 make it, 498 leave it as it was, two ask. */
    private static void upToTheLastCall() {
        String[] house = {"503;202", "000", "03"};
        long due = made(house).digest();
        LeaversFloor x = made(house);
        x.type(2, '9');
        x.undo(2);
        for (int round = 0; round < 62; round++) {
            x.type(round % 3, '0' + round % 10);
            x.undo(round % 3);
            x.set(0, 4);
            x.sheet(round % 4, round % 3, round % 61);
            x.write(round % 4, round % 4);
            x.seen(round, round);
            x.forget();
            x.lose(round % 4);
        }
        due("the 511th call", x.count(0), 2);
        due("the 512th call", x.digest(), due);
    }

    public static void main(String[] args) {
        List<Question> questions = questions();
        upToTheLastCall();
        askedFirst(questions);
        askedBehindAChange(questions, changes());
        System.out.println(asked + " answers behind changes, " + wrong + " wrong");
        if (wrong != 0) {
            System.exit(1);
        }
    }
}
