import java.io.IOException;
import java.lang.reflect.Field;
import java.lang.reflect.Method;
import java.lang.reflect.Modifier;
import java.nio.charset.StandardCharsets;
import java.nio.file.Files;
import java.nio.file.Path;
import java.util.ArrayList;
import java.util.List;
import java.util.Set;
import java.util.TreeSet;

/** Rules of ../shared/LANGUAGE.md that a program can look after, and the room that a run of calls takes. */
public final class RulesCheck {
    private static final Path SOURCE = Path.of("src/main/java/MirrorRoots.java");
    private static final String[] FACE = {
        "int feed(int, long)", "int read()", "int fault()", "int turns(int, int)", "int number(int, int)", "int count(int)",
        "int letter(int)", "int keep()", "int length(int)", "int at(int, int)", "int down(int, int)",
        "long root(int, int, int)", "int times(int, int)", "int back(int)", "int below(int, int)", "int covers(int)",
        "long words(int)", "int exchange(int, int)", "long inversion(int, int, int)", "int coset(int, int, int)",
        "int both(int, int, int)", "int growth(int)", "int whole(int)", "int order(int)", "int shifts(int, int)",
        "int r(int, int, int)", "int p(int, int, int)", "int leans(int, int)", "int rough(int)"};
    private static final String[] BANNED = {
        "\\bthrow\\b", "\\bthrows\\b", "\\btry\\b", "\\bcatch\\b", "\\bsynchronized\\b", "\\bassert\\b", "->", "::",
        "\\bnull\\.", "\\bHashMap\\b", "\\bRandom\\b", "Exact\\b", "\\bSystem\\.(?!arraycopy\\b)", "\\bThread\\b", "\\bObject\\b",
        "\\bhashCode\\b", "\\btoString\\b", "^\\s*package\\b", "\\binterface\\b", "@"};
    private static int wrong = 0;

    private static void check(boolean holds, String what) {
        if (holds) return;
        wrong++;
        System.out.println("broken: " + what);
    }

    public static void main(String[] args) throws IOException {
        checkFace();
        checkClasses();
        checkSource();
        checkRoom();
        System.out.println(wrong == 0 ? "the rules hold" : wrong + " rules are broken");
        if (wrong != 0) System.exit(1);
    }

    private static String told(Method m) {
        StringBuilder out = new StringBuilder(m.getReturnType().getSimpleName()).append(' ').append(m.getName()).append('(');
        for (Class<?> c : m.getParameterTypes()) out.append(out.charAt(out.length() - 1) == '(' ? "" : ", ").append(c.getSimpleName());
        return out.append(')').toString();
    }

    private static void checkFace() {
        Set<String> due = new TreeSet<>(List.of(FACE));
        Set<String> found = new TreeSet<>();
        for (Method m : MirrorRoots.class.getDeclaredMethods()) {
            if (Modifier.isPublic(m.getModifiers())) found.add(told(m));
            else check(Modifier.isPrivate(m.getModifiers()), "private: " + m);
        }
        check(due.equals(found), "1, the face: " + found);
        for (Field f : MirrorRoots.class.getDeclaredFields()) {
            boolean constant = Set.of("NONE", "UNKNOWN", "OUTSIDE", "NOT", "FULL", "LARGE").contains(f.getName());
            check(constant ? Modifier.isPublic(f.getModifiers()) : Modifier.isPrivate(f.getModifiers()), "1, the face: " + f);
        }
        check(MirrorRoots.class.getDeclaredConstructors().length == 1, "1, one constructor");
        check(Modifier.isFinal(MirrorRoots.class.getModifiers()), "1, final");
    }

    private static void checkClasses() {
        List<Class<?>> all = new ArrayList<>(List.of(MirrorRoots.class.getDeclaredClasses()));
        check(all.size() <= 11, "11, twelve classes");
        Set<String> face = new TreeSet<>();
        for (Method m : MirrorRoots.class.getDeclaredMethods()) if (Modifier.isPublic(m.getModifiers())) face.add(m.getName());
        all.add(MirrorRoots.class);
        for (Class<?> c : all) {
            check(c == MirrorRoots.class || Modifier.isStatic(c.getModifiers()), "2, static: " + c);
            int fields = 0;
            for (Field f : c.getDeclaredFields()) {
                if (!Modifier.isStatic(f.getModifiers())) fields++;
                else check(Modifier.isFinal(f.getModifiers()), "5, static fields are final: " + f);
            }
            check(fields <= 20, "11, twenty fields: " + c);
            for (Method m : c.getDeclaredMethods()) {
                check(Modifier.isPublic(m.getModifiers()) || !face.contains(m.getName()), "1, a name of the face: " + m);
                check(m.getParameterCount() <= 7, "11, seven parameters: " + m);
            }
        }
    }

    private static void checkSource() throws IOException {
        String source = Files.readString(SOURCE, StandardCharsets.ISO_8859_1);
        for (int i = 0; i < source.length(); i++) check(source.charAt(i) < 128 && source.charAt(i) != '\t', "plain signs at " + i);
        String code = source.replaceAll("(?s)/\\*.*?\\*/", "").replaceAll("//[^\n]*", "").replaceAll("\"[^\"]*\"", "\"\"");
        for (String banned : BANNED) {
            check(!java.util.regex.Pattern.compile(banned, java.util.regex.Pattern.MULTILINE).matcher(code).find(), "not allowed: " + banned);
        }
        int start = -1;
        String[] lines = source.split("\n");
        for (int i = 0; i < lines.length; i++) {
            check(lines[i].length() <= 130, "a long line: " + (i + 1));
            if (lines[i].matches("(    |        )(public|private) .*\\) \\{")) start = i;
            if (lines[i].matches("(    |        )\\}") && start >= 0) {
                check(i - start < 60, "11, sixty lines: " + (start + 1));
                start = -1;
            }
        }
    }

    /** The dearest calls, 512 of them: less than 2 million bytes in all, so far less than 7.3 million elements. */
    private static void checkRoom() {
        com.sun.management.ThreadMXBean bean = (com.sun.management.ThreadMXBean) java.lang.management.ManagementFactory.getThreadMXBean();
        long id = Thread.currentThread().getId();
        dearCalls();
        long before = bean.getThreadAllocatedBytes(id);
        long sum = dearCalls();
        long made = bean.getThreadAllocatedBytes(id) - before;
        check(sum != 0, "dear calls");
        check(made < 2000000, "12, room: " + made + " bytes");
        before = bean.getThreadAllocatedBytes(id);
        MirrorRoots x = new MirrorRoots();
        made = bean.getThreadAllocatedBytes(id) - before;
        check(x.count(0) == 3 && made < 20000, "12, room of a new object: " + made + " bytes");
    }

    private static long dearCalls() {
        MirrorRoots x = new MirrorRoots();
        for (char c : "mirrors 5;013;123;233;34never;".toCharArray()) x.feed(1, c);
        long sum = x.read();
        for (char c : "21321434323411323010".toCharArray()) x.letter(c - '0');
        int w = x.keep();
        for (char c : "43210234".toCharArray()) x.letter(c - '0');
        int u = x.keep();
        for (int i = 0; i < 50; i++) {
            sum += x.shifts(w, 0) + x.shifts(u, 0) + x.rough(u) + x.rough(0) + x.p(0, u, 1) + x.r(0, u, 1);
            sum += x.words(u) + x.growth(9) + x.whole(0) + x.covers(w);
        }
        return sum;
    }
}
