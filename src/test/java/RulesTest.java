import java.io.IOException;
import java.lang.management.ManagementFactory;
import java.lang.reflect.Constructor;
import java.lang.reflect.Field;
import java.lang.reflect.Method;
import java.lang.reflect.Modifier;
import java.nio.file.Files;
import java.nio.file.Path;
import java.util.ArrayList;
import java.util.List;
import java.util.Map;
import java.util.Set;
import java.util.TreeMap;
import java.util.TreeSet;
import java.util.regex.Matcher;
import java.util.regex.Pattern;

/** What LANGUAGE.md asks for, as far as a program can look: the face, forbidden words, sizes, and that calls make nothing. */
public final class RulesTest {
    private static final String FACE = "int type(int,int) int wipe(int) int undo(int) int fault(int) int rider(int,int)"
        + " int leaver(int,int) int stop(int) int set(int,int) int lift(int,int) int ends() int rides(int,int) int full(int)"
        + " int arrived(int) int knows(int,int) int more(int) int leave(int,int,int) int seen(int,int) int forget()"
        + " int read(int) int never() int who(int) int weigh() long maybe(int,int,int,int) int day(int,int,int)"
        + " int sheet(int,int,int) int lose(int) int put(int,int,int,int) int get(int,int,int) int copy(int,int,int,int,int)"
        + " int write(int,int) int count(int) long digest()";
    private static final String[] FORBIDDEN = {"\\bthrow\\b", "\\bthrows\\b", "\\btry\\b", "\\bcatch\\b", "\\bsynchronized\\b",
        "\\bassert\\b", "->", "::", "\\bstatic\\s*\\{", "^package\\b", "\\bvar\\b", "Exact\\b", "\\bObject\\b", "\\bSystem\\.(?!arraycopy)"};
    private static final int ROUND = 40, SMALLEST_OBJECT = 16;
    private static int wrong = 0;

    private static void claim(boolean holds, String what) {
        if (!holds) {
            wrong++;
            System.out.println("not so: " + what);
        }
    }

    private static void face() {
        Class<?> c = LeaversFloor.class;
        claim(Modifier.isFinal(c.getModifiers()) && Modifier.isPublic(c.getModifiers()), "public and final");
        Set<String> due = new TreeSet<>();
        for (String part : FACE.split("(?<=\\)) ")) {
            due.add(part);
        }
        Set<String> are = new TreeSet<>();
        Set<String> publicNames = new TreeSet<>();
        for (Method m : c.getDeclaredMethods()) {
            if (!Modifier.isPrivate(m.getModifiers())) {
                List<String> types = new ArrayList<>();
                for (Class<?> type : m.getParameterTypes()) {
                    types.add(type.getName());
                }
                are.add(m.getReturnType() + " " + m.getName() + "(" + String.join(",", types) + ")");
                publicNames.add(m.getName());
                claim(Modifier.isPublic(m.getModifiers()), m + " is public");
            }
        }
        claim(due.equals(are), "the methods are those of the face: " + are);
        List<Class<?>> all = new ArrayList<>(List.of(c));
        all.addAll(List.of(c.getDeclaredClasses()));
        claim(all.size() <= 12, "some twelve classes");
        for (Class<?> one : all) {
            members(one, one == c, publicNames);
        }
        for (Constructor<?> k : c.getDeclaredConstructors()) {
            claim(Modifier.isPublic(k.getModifiers()) && k.getParameterCount() == 0, "the constructor");
        }
    }

    private static void members(Class<?> one, boolean outer, Set<String> publicNames) {
        int fields = 0;
        for (Field f : one.getDeclaredFields()) {
            int mods = f.getModifiers();
            boolean constant = Modifier.isStatic(mods);
            fields += constant ? 0 : 1;
            claim(!constant || Modifier.isFinal(mods), f + " is final");
            boolean shown = Set.of("NONE", "BAD", "NOT", "FULL").contains(f.getName());
            claim(!outer || (shown ? Modifier.isPublic(mods) : Modifier.isPrivate(mods)), f + " is as the face has it");
        }
        claim(fields <= 20, one + " has some twenty fields");
        for (Method m : one.getDeclaredMethods()) {
            claim(m.getParameterCount() <= 7, m + " takes at most seven");
            boolean ofFace = outer && Modifier.isPublic(m.getModifiers());
            claim(ofFace || !publicNames.contains(m.getName()), m + " has a name of its own");
        }
        claim(outer || Modifier.isStatic(one.getModifiers()), one + " is static");
    }

    private static void source() throws IOException {
        String text = Files.readString(Path.of("src/main/java/LeaversFloor.java"));
        String code = text.replaceAll("(?s)/\\*.*?\\*/", "").replaceAll("//[^\n]*", "");
        for (String word : FORBIDDEN) {
            Matcher m = Pattern.compile(word, Pattern.MULTILINE).matcher(code);
            claim(!m.find(), "without " + word);
        }
        Matcher imports = Pattern.compile("import ([^;]*);").matcher(code);
        while (imports.find()) {
            claim(imports.group(1).equals("java.util.Arrays"), "import " + imports.group(1));
        }
        int start = -1;
        String[] lines = text.split("\n");
        for (int i = 0; i < lines.length; i++) {
            if (lines[i].matches("(    |        )[a-zA-Z].*\\) \\{")) {
                start = i;
            } else if (lines[i].matches("(    |        )\\}") && start >= 0) {
                claim(i - start < 60, "line " + (start + 1) + ": a short method");
                start = -1;
            }
        }
    }

    /** What each method calls, by names; classes inside that share a name are taken together. */
    private static Map<String, Set<String>> callsByName(String code) {
        Map<String, Set<String>> calls = new TreeMap<>();
        Pattern head = Pattern.compile("(    |        )(?:\\w+(?:\\[\\])? )*(\\w+)\\(.*\\) \\{");
        Pattern call = Pattern.compile("\\b(\\w+)\\(");
        Set<String> open = null;
        for (String line : code.split("\n")) {
            Matcher m = head.matcher(line);
            if (m.matches() && !Set.of("if", "for", "while", "switch").contains(m.group(2))) {
                open = calls.computeIfAbsent(m.group(2), name -> new TreeSet<>());
            } else if (open != null) {
                Matcher inside = call.matcher(line);
                while (inside.find()) {
                    open.add(inside.group(1));
                }
            }
        }
        return calls;
    }

    private static int deep(Map<String, Set<String>> calls, String name, int above) {
        int most = above + 1;
        if (most > 20) {
            return most;
        }
        for (String next : calls.get(name)) {
            if (calls.containsKey(next)) {
                most = Math.max(most, deep(calls, next, above + 1));
            }
        }
        return most;
    }

    private static void depth() throws IOException {
        String text = Files.readString(Path.of("src/main/java/LeaversFloor.java"));
        Map<String, Set<String>> calls = callsByName(text.replaceAll("//[^\n]*", ""));
        claim(calls.size() > 80, "the methods are found: " + calls.size());
        for (String name : calls.keySet()) {
            int deep = deep(calls, name, 0);
            claim(deep <= 8, name + " goes at most eight deep, not " + deep);
        }
    }

    private static long callAll(LeaversFloor x) {
        long sum = 0;
        for (int i = 0; i < ROUND; i++) {
            x.set(1, 20 + i % 3);
            sum += x.digest() + x.sheet(i % 4, i % 3, i) + x.write(i % 4, i % 4) + x.read(i % 4) + x.forget() + x.lose(i % 4);
            x.undo(2);
            x.type(2, '0' + i % 10);
        }
        return sum;
    }

    private static void makesNothing() {
        LeaversFloor x = new LeaversFloor();
        String[] texts = {"408;690;381;717;252;930;164;848", "030;051;202;103;404;605;006;157", "98017640305928170406"};
        for (int text = 0; text < 3; text++) {
            for (char b : texts[text].toCharArray()) {
                x.type(text, b);
            }
        }
        // Looking the bean up makes objects itself, so it is kept. The machine makes things of its own
        // now and then, too; what a call makes comes in every round.
        com.sun.management.ThreadMXBean bean = (com.sun.management.ThreadMXBean) ManagementFactory.getThreadMXBean();
        long least = Long.MAX_VALUE;
        for (int round = 0; round < 12; round++) {
            long before = bean.getCurrentThreadAllocatedBytes();
            callAll(x);
            least = Math.min(least, bean.getCurrentThreadAllocatedBytes() - before);
        }
        claim(least < SMALLEST_OBJECT * ROUND, "calls make nothing: " + least + " bytes");
    }

    /** A fast machine may make away with objects that no one keeps, so the source is looked at, too. */
    private static void newInFieldsAlone() throws IOException {
        String text = Files.readString(Path.of("src/main/java/LeaversFloor.java"));
        String code = text.replaceAll("(?s)/\\*.*?\\*/", "").replaceAll("//[^\n]*", "");
        int start = code.indexOf("public LeaversFloor() {");
        int end = code.indexOf("\n    }", start);
        claim(start >= 0 && end > start, "the constructor is found");
        String rest = code.substring(0, start) + code.substring(end);
        for (String line : rest.split("\n")) {
            boolean field = line.matches("    (    )?(private )?final [\\w\\[\\]]+ \\w+ = new .*;");
            claim(field || !line.matches(".*\\bnew\\b.*"), "new stands with a field: " + line.trim());
        }
        claim(!rest.matches("(?s).*(\\.clone\\(|copyOf|String|List|Integer\\.valueOf).*"), "nothing that makes by itself");
    }

    /** Whatever is asked for, nothing is thrown. */
    private static void anyArguments() {
        int[] odd = {Integer.MIN_VALUE, -2, -1, 0, 1, 2, 3, 7, 8, 20, 60, 255, 256, Integer.MAX_VALUE};
        for (String riders : new String[] {"", "503;202", "100;111;222;333;444;555;666;777"}) {
            LeaversFloor x = new LeaversFloor();
            for (char b : riders.toCharArray()) {
                x.type(0, b);
            }
            x.type(1, '0');
            for (int a : odd) {
                x.wipe(a < 0 ? a : 3);
                x.fault(a);
                x.stop(a);
                x.full(a);
                x.arrived(a);
                x.more(a);
                x.read(a);
                x.who(a);
                x.lose(a);
                x.count(a);
                for (int b : odd) {
                    oddPairs(x, a, b);
                    for (int c : odd) {
                        x.leave(a, b, c);
                        x.day(a, b, c);
                        x.sheet(a, b, c);
                        x.get(a, b, c);
                        for (int d : odd) {
                            x.maybe(a, b, c, d);
                            x.put(a, b, c, d);
                            x.copy(a & 3, b, c & 3, d, a);
                        }
                    }
                }
            }
        }
    }

    private static void oddPairs(LeaversFloor x, int a, int b) {
        x.type(a, b);
        x.rider(a, b);
        x.leaver(a, b);
        x.set(a, b);
        x.lift(a, b);
        x.rides(a, b);
        x.knows(a, b);
        x.seen(a, b);
        x.write(a, b);
    }

    public static void main(String[] args) throws IOException {
        face();
        source();
        depth();
        makesNothing();
        newInFieldsAlone();
        anyArguments();
        System.out.println("rules: " + wrong + " not kept");
        if (wrong != 0) {
            System.exit(1);
        }
    }
}
