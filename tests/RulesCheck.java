import java.io.File;
import java.io.IOException;
import java.io.PrintWriter;
import java.io.StringWriter;
import java.lang.reflect.Field;
import java.lang.reflect.Method;
import java.lang.reflect.Modifier;
import java.nio.charset.StandardCharsets;
import java.nio.file.Files;
import java.nio.file.Path;
import java.util.ArrayList;
import java.util.Arrays;
import java.util.List;
import java.util.Map;
import java.util.Random;
import java.util.Set;
import java.util.TreeMap;
import java.util.TreeSet;
import java.util.regex.Matcher;
import java.util.regex.Pattern;
import java.util.spi.ToolProvider;

/** Rules of ../shared/LANGUAGE.md that a program can look after, and the room that a run of calls takes. */
public final class RulesCheck {
    private static final Path SOURCE = Path.of("src/main/java/MirrorRoots.java");
    private static final String[] FACE = {
        "int feed(int, long)", "int read()", "int fault()", "int turns(int, int)", "int number(int, int)", "int count(int)",
        "int letter(int)", "int keep()", "int length(int)", "int at(int, int)", "int down(int, int)",
        "long root(int, int, int)", "int times(int, int)", "int back(int)", "int below(int, int)", "int covers(int)",
        "long words(int)", "int exchange(int, int)", "long inversion(int, int, int)", "int coset(int, int, int)",
        "int both(int, int, int)", "int growth(int)", "int whole(int)", "int order(int)", "int shifts(int, int)",
        "int r(int, int, int)", "int p(int, int, int)", "int leans(int, int)", "int rough(int)"};
    private static final String[] BANNED = {
        "\\bthrow\\b", "\\bthrows\\b", "\\btry\\b", "\\bcatch\\b", "\\bsynchronized\\b", "\\bassert\\b", "->", "::",
        "\\bnull\\.", "\\bHashMap\\b", "\\bRandom\\b", "Exact\\b", "\\bSystem\\.(?!arraycopy\\b)", "\\bThread\\b", "\\bObject\\b",
        "\\bhashCode\\b", "\\btoString\\b", "^\\s*package\\b", "\\binterface\\b", "@"};
    private static final Set<String> LIBRARY = Set.of("java/lang/Object.<init>", "java/lang/String.length", "java/lang/String.charAt", "java/lang/Math.min");
    private static final Set<String> RECURSIONS = Set.of("MirrorRoots$Ideal.fill", "MirrorRoots$Paths.walk");
    private static int wrong = 0;

    private static void check(boolean holds, String what) {
        if (holds) return;
        wrong++;
        System.out.println("broken: " + what);
    }

    public static void main(String[] args) throws IOException {
        checkFace();
        checkConstants();
        checkClasses();
        checkSource();
        checkCalls();
        checkRoom();
        checkNothingThrows();
        System.out.println(wrong == 0 ? "the rules hold" : wrong + " rules are broken");
        if (wrong != 0) System.exit(1);
    }

    private static String told(Method m) {
        StringBuilder out = new StringBuilder(m.getReturnType().getSimpleName()).append(' ').append(m.getName()).append('(');
        for (Class<?> c : m.getParameterTypes()) out.append(out.charAt(out.length() - 1) == '(' ? "" : ", ").append(c.getSimpleName());
        return out.append(')').toString();
    }

    private static void checkFace() {
        Set<String> due = new TreeSet<>(List.of(FACE));
        Set<String> found = new TreeSet<>();
        for (Method m : MirrorRoots.class.getDeclaredMethods()) {
            if (Modifier.isPublic(m.getModifiers())) found.add(told(m));
            else check(Modifier.isPrivate(m.getModifiers()), "private: " + m);
        }
        check(due.equals(found), "1, the face: " + found);
        for (Field f : MirrorRoots.class.getDeclaredFields()) {
            boolean constant = Set.of("NONE", "UNKNOWN", "OUTSIDE", "NOT", "FULL", "LARGE").contains(f.getName());
            check(constant ? Modifier.isPublic(f.getModifiers()) : Modifier.isPrivate(f.getModifiers()), "1, the face: " + f);
        }
        check(MirrorRoots.class.getDeclaredConstructors().length == 1, "1, one constructor");
        check(Modifier.isFinal(MirrorRoots.class.getModifiers()), "1, final");
    }

    private static void checkConstants() {
        int[] told = {MirrorRoots.NONE, MirrorRoots.UNKNOWN, MirrorRoots.OUTSIDE, MirrorRoots.NOT, MirrorRoots.FULL, MirrorRoots.LARGE};
        check(Arrays.equals(told, new int[] {-1, -1001, -1002, -1003, -1004, -1005}), "1, the face: constants " + Arrays.toString(told));
        int found = 0;
        for (Field f : MirrorRoots.class.getFields()) {
            found++;
            check(f.getType() == int.class && Modifier.isStatic(f.getModifiers()) && Modifier.isFinal(f.getModifiers()), "1, the face: " + f);
        }
        check(found == told.length, "1, the face: " + found + " constants");
        check(Modifier.isPublic(MirrorRoots.class.getDeclaredConstructors()[0].getModifiers()), "1, a public constructor");
    }

    private static void checkClasses() {
        List<Class<?>> all = new ArrayList<>(List.of(MirrorRoots.class.getDeclaredClasses()));
        check(all.size() <= 11, "11, twelve classes");
        Set<String> face = new TreeSet<>();
        for (Method m : MirrorRoots.class.getDeclaredMethods()) if (Modifier.isPublic(m.getModifiers())) face.add(m.getName());
        all.add(MirrorRoots.class);
        for (Class<?> c : all) {
            check(c == MirrorRoots.class || Modifier.isStatic(c.getModifiers()), "2, static: " + c);
            int fields = 0;
            for (Field f : c.getDeclaredFields()) {
                if (!Modifier.isStatic(f.getModifiers())) fields++;
                else check(Modifier.isFinal(f.getModifiers()), "5, static fields are final: " + f);
            }
            check(fields <= 20, "11, twenty fields: " + c);
            for (Method m : c.getDeclaredMethods()) {
                check(Modifier.isPublic(m.getModifiers()) || !face.contains(m.getName()), "1, a name of the face: " + m);
                check(m.getParameterCount() <= 7, "11, seven parameters: " + m);
            }
        }
    }

    private static void checkSource() throws IOException {
        String source = Files.readString(SOURCE, StandardCharsets.ISO_8859_1);
        for (int i = 0; i < source.length(); i++) check(source.charAt(i) < 128 && source.charAt(i) != '\t', "plain signs at " + i);
        String code = source.replaceAll("(?s)/\\*.*?\\*/", "").replaceAll("//[^\n]*", "").replaceAll("\"[^\"]*\"", "\"\"");
        for (String banned : BANNED) {
            check(!java.util.regex.Pattern.compile(banned, java.util.regex.Pattern.MULTILINE).matcher(code).find(), "not allowed: " + banned);
        }
        int start = -1;
        String[] lines = source.split("\n");
        for (int i = 0; i < lines.length; i++) {
            check(lines[i].length() <= 130, "a long line: " + (i + 1));
            if (lines[i].matches("(    |        )(public|private) .*\\) \\{")) start = i;
            if (lines[i].matches("(    |        )\\}") && start >= 0) {
                check(i - start < 60, "11, sixty lines: " + (start + 1));
                start = -1;
            }
        }
    }

    /** What calls what, told by javap: what of the library is called, which recursions there are, how deep calls go. */
    private static void checkCalls() throws IOException {
        ToolProvider javap = ToolProvider.findFirst("javap").orElse(null);
        if (javap == null) return;
        Map<String, Set<String>> calls = new TreeMap<>();
        String[] places = System.getProperty("java.class.path").split(File.pathSeparator);
        for (String name : new File(places[0]).list((dir, file) -> file.matches("MirrorRoots(\\$\\w+)?\\.class"))) {
            StringWriter out = new StringWriter();
            javap.run(new PrintWriter(out), new PrintWriter(out), "-c", "-p", places[0] + File.separator + name);
            readCalls(name.replace(".class", ""), out.toString(), calls);
        }
        check(calls.size() > 100, "methods to look at: " + calls.size());
        for (Map.Entry<String, Set<String>> entry : calls.entrySet()) {
            for (String called : entry.getValue()) {
                check(calls.containsKey(called) || LIBRARY.contains(called), "4, the library: " + called + " in " + entry.getKey());
            }
            int deep = depth(entry.getKey(), calls, new ArrayList<>());
            check(deep <= 8, "11, calls go " + deep + " deep: " + entry.getKey());
        }
    }

    private static void readCalls(String type, String told, Map<String, Set<String>> calls) {
        Pattern method = Pattern.compile("  \\S.*?([\\w$]+)\\(.*\\);"), call = Pattern.compile(".*// (?:Interface)?Method ([^:]+):.*");
        String now = "";
        for (String line : told.split("\\R")) {
            Matcher starts = method.matcher(line), calling = call.matcher(line);
            if (starts.matches()) {
                now = type + "." + (starts.group(1).equals(type) ? "<init>" : starts.group(1));
                calls.putIfAbsent(now, new TreeSet<>());
            } else if (calling.matches()) {
                String to = calling.group(1).replace("\"", "");
                calls.get(now).add(to.contains(".") ? to : type + "." + to);
            }
        }
    }

    /** How many methods stand open at once, a recursion counted once; only a static method may call itself. */
    private static int depth(String name, Map<String, Set<String>> calls, List<String> open) {
        if (open.contains(name)) {
            check(name.equals(open.get(open.size() - 1)), "8, methods that call one another: " + name);
            check(RECURSIONS.contains(name), "8, a recursion: " + name);
            return 0;
        }
        int deepest = 0;
        open.add(name);
        for (String called : calls.getOrDefault(name, Set.of())) {
            if (calls.containsKey(called)) deepest = Math.max(deepest, depth(called, calls, open));
        }
        open.remove(open.size() - 1);
        return deepest + 1;
    }

    /** The dearest calls, 512 of them: less than 2 million bytes in all, so far less than 7.3 million elements. */
    private static void checkRoom() {
        com.sun.management.ThreadMXBean bean = (com.sun.management.ThreadMXBean) java.lang.management.ManagementFactory.getThreadMXBean();
        long id = Thread.currentThread().getId();
        dearCalls();
        long before = bean.getThreadAllocatedBytes(id);
        long sum = dearCalls();
        long made = bean.getThreadAllocatedBytes(id) - before;
        check(sum != 0, "dear calls");
        check(made < 2000000, "12, room: " + made + " bytes");
        before = bean.getThreadAllocatedBytes(id);
        MirrorRoots x = new MirrorRoots();
        made = bean.getThreadAllocatedBytes(id) - before;
        check(x.count(0) == 3 && made < 20000, "12, room of a new object: " + made + " bytes");
    }

    private static long dearCalls() {
        MirrorRoots x = new MirrorRoots();
        for (char c : "mirrors 5;013;123;233;34never;".toCharArray()) x.feed(1, c);
        long sum = x.read();
        for (char c : "21321434323411323010".toCharArray()) x.letter(c - '0');
        int w = x.keep();
        for (char c : "43210234".toCharArray()) x.letter(c - '0');
        int u = x.keep();
        for (int i = 0; i < 50; i++) {
            sum += x.shifts(w, 0) + x.shifts(u, 0) + x.rough(u) + x.rough(0) + x.p(0, u, 1) + x.r(0, u, 1);
            sum += x.words(u) + x.growth(9) + x.whole(0) + x.covers(w);
        }
        return sum;
    }

    /** Rule 7: any calls with any numbers, behind the 512th, too; a call that does not end is stopped by the clock. */
    private static void checkNothingThrows() {
        Thread clock = new Thread(RulesCheck::stopLate);
        clock.setDaemon(true);
        clock.start();
        String[] texts = {"", "mirrors 1;", "mirrors 2;01never;", "mirrors 5;", "mirrors 5;013;123;233;34never;", "013;123;023;",
            "mirrors 5;016;026;036;046;126;136;146;236;246;346;", "mirrors 5;01never;02never;03never;04never;12never;13never;23never;34never;"};
        for (int run = 0; run < 160; run++) {
            Random random = new Random(run);
            MirrorRoots x = new MirrorRoots();
            StringBuilder last = new StringBuilder();
            try {
                for (char c : texts[run % texts.length].toCharArray()) x.feed(1, c);
                x.read();
                for (int i = 0; i < 1500; i++) wildCall(x, random, last);
            } catch (RuntimeException | StackOverflowError e) {
                check(false, "7, run " + run + ": " + last + " threw " + e);
            }
        }
    }

    private static void stopLate() {
        try {
            Thread.sleep(300000);
        } catch (InterruptedException e) {
            return;
        }
        System.out.println("broken: 7, a call does not end");
        System.exit(1);
    }

    private static int wild(Random random) {
        int[] ends = {Integer.MIN_VALUE, Integer.MAX_VALUE, -1, 0, 1, 4, 5, 8, 19, 20, 21, 31, 32, 39, 40, 41, 64, 120, 255, 256, 512};
        int kind = random.nextInt(10);
        return kind < 6 ? random.nextInt(5) : kind < 8 ? random.nextInt(42) - 1 : kind == 8 ? ends[random.nextInt(ends.length)] : random.nextInt();
    }

    private static void wildCall(MirrorRoots x, Random random, StringBuilder last) {
        int which = random.nextInt(44), a = wild(random), b = wild(random), c = wild(random);
        long bytes = random.nextInt(3) == 0 ? random.nextLong() : "mirrors 5;0 1 never;234;".charAt(random.nextInt(24));
        last.setLength(0);
        last.append(which).append(": ").append(a).append(", ").append(b).append(", ").append(c).append(", ").append(bytes);
        switch (which) {
            case 0: x.feed(a, bytes); break;
            case 1: x.feed(1, bytes); break;
            case 2: if (random.nextInt(20) == 0) x.read(); break;
            case 3: x.fault(); break;
            case 4: x.turns(a, b); break;
            case 5: x.number(a, b); break;
            case 6: x.count(a); break;
            case 7: x.keep(); break;
            case 8: x.length(a); break;
            case 9: x.at(a, b); break;
            case 10: x.down(a, b); break;
            case 11: x.root(a, b, c); break;
            case 12: x.times(a, b); break;
            case 13: x.back(a); break;
            case 14: x.below(a, b); break;
            case 15: x.covers(a); break;
            case 16: x.words(a); break;
            case 17: x.exchange(a, b); break;
            case 18: x.inversion(a, b, c); break;
            case 19: x.coset(a, b, c); break;
            case 20: x.both(a, b, c); break;
            case 21: x.growth(a); break;
            case 22: x.whole(a); break;
            case 23: x.order(a); break;
            case 24: x.shifts(a, b); break;
            case 25: x.r(a, b, c); break;
            case 26: x.p(a, b, c); break;
            case 27: x.leans(a, b); break;
            case 28: x.rough(a); break;
            default: x.letter(a); break;
        }
    }
}
