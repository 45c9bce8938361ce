import java.io.IOException;
import java.lang.reflect.Method;
import java.nio.charset.StandardCharsets;
import java.nio.file.Files;
import java.nio.file.Path;
import java.util.HashMap;
import java.util.Map;
import java.util.Set;
import java.util.TreeSet;
import java.util.regex.Matcher;
import java.util.regex.Pattern;

/** Does the calls of README.md line by line: each must answer what stands behind it, and each call of the face stands there. */
public final class ReadmeRuns {
    private static final Pattern MAKE = Pattern.compile("MirrorRoots x = new MirrorRoots\\(\\);");
    private static final Pattern SPELL = Pattern.compile("for \\(char c : \"(.*)\"\\.toCharArray\\(\\)\\) x\\.(feed\\(1, c|letter\\(c - '0')\\);");
    private static final Pattern CALL = Pattern.compile("(?:int (\\w) = )?x\\.(\\w+)\\((.*?)\\);\\s+// (-?\\d+)\\b.*");

    private static final Map<String, Long> names = new HashMap<>();
    private static final Set<String> called = new TreeSet<>();
    private static MirrorRoots x = new MirrorRoots();
    private static int wrong = 0;
    private static int lines = 0;

    private static void complain(String what) {
        wrong++;
        System.out.println("README.md: " + what);
    }

    public static void main(String[] args) throws IOException, ReflectiveOperationException {
        boolean inside = false;
        for (String line : Files.readString(Path.of("README.md"), StandardCharsets.UTF_8).split("\n")) {
            if (line.startsWith("```")) inside = line.equals("```java");
            else if (inside) run(line);
        }
        for (Method m : MirrorRoots.class.getDeclaredMethods()) {
            if (java.lang.reflect.Modifier.isPublic(m.getModifiers()) && !called.contains(m.getName())) complain("no call of " + m.getName());
        }
        if (lines < 50) complain("only " + lines + " lines");
        System.out.println(wrong == 0 ? "all " + lines + " lines of README.md hold" : wrong + " lines do not hold");
        if (wrong != 0) System.exit(1);
    }

    private static void run(String line) throws ReflectiveOperationException {
        lines++;
        Matcher spell = SPELL.matcher(line), call = CALL.matcher(line);
        if (MAKE.matcher(line).matches()) {
            x = new MirrorRoots();
        } else if (spell.matches()) {
            for (char c : spell.group(1).toCharArray()) {
                int answer = spell.group(2).startsWith("feed") ? x.feed(1, c) : x.letter(c - '0');
                if (answer < 1) complain(line + " answers " + answer);
            }
        } else if (call.matches()) {
            long answer = answer(call.group(2), call.group(3).isEmpty() ? new String[0] : call.group(3).split(", "));
            if (answer != Long.parseLong(call.group(4))) complain(line + " answers " + answer);
            if (call.group(1) != null) names.put(call.group(1), answer);
        } else {
            complain("a line that is no call: " + line);
        }
    }

    private static long answer(String name, String[] told) throws ReflectiveOperationException {
        for (Method m : MirrorRoots.class.getDeclaredMethods()) {
            if (!m.getName().equals(name) || m.getParameterCount() != told.length) continue;
            Object[] args = new Object[told.length];
            for (int i = 0; i < told.length; i++) {
                long number = number(told[i]);
                if (m.getParameterTypes()[i] == int.class) args[i] = (int) number;
                else args[i] = number;
            }
            called.add(name);
            return ((Number) m.invoke(x, args)).longValue();
        }
        complain("there is no call " + name + " of " + told.length);
        return 0;
    }

    private static long number(String told) {
        if (names.containsKey(told)) return names.get(told);
        return told.startsWith("0x") ? Long.parseLong(told.substring(2).replace("L", ""), 16) : Long.parseLong(told);
    }
}
