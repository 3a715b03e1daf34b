import java.nio.charset.StandardCharsets;
import java.nio.file.Files;
import java.nio.file.Path;
import java.util.ArrayList;
import java.util.HashMap;
import java.util.HashSet;
import java.util.LinkedHashMap;
import java.util.List;
import java.util.Map;
import java.util.Set;
import java.util.regex.Matcher;
import java.util.regex.Pattern;

/**
 * LANGUAGE.md 8 and 11: calls inside the class go at most eight deep and never round in a ring. The source
 * is read line by line as it is written here: a class or a method opens in a line of its own, and an object
 * bears its class's name with a small letter.
 */
public final class DepthTest {
    private static final int DEEPEST = 8;
    private static final String OUTER = "SoupSand";
    private static final Pattern CLASS = Pattern.compile(" *(?:public |private )?(?:static )?final class (\\w+) \\{");
    private static final Pattern HEAD = Pattern.compile(" *(?:public |private |static )*(?:[\\w\\[\\]]+ )?(\\w+)\\([^()]*\\) \\{");
    private static final Pattern FIELD = Pattern.compile(" *(?:private )?final \\w+ \\w+ = (new .*)");
    private static final Pattern CALL = Pattern.compile("(?:(\\bnew )|(\\w+)\\.)?\\b(\\w+)\\(");
    private static final Set<String> NO_CALLS = Set.of("if", "for", "while", "switch", "return");

    /** By class and method: the calls in its body. */
    private static final Map<String, List<String>> BODIES = new LinkedHashMap<>();
    private static final Map<String, Integer> DEPTHS = new HashMap<>();
    private static final Set<String> OPEN = new HashSet<>();
    private static int wrong = 0;

    public static void main(String[] args) throws Exception {
        Path source = Path.of("src/main/java/SoupSand.java");
        readBodies(plain(new String(Files.readAllBytes(source), StandardCharsets.ISO_8859_1)));
        allMethodsAreSeen();
        int deepest = 0;
        for (String method : BODIES.keySet()) deepest = Math.max(deepest, depthOf(method));
        due("calls go at most " + DEEPEST + " deep, not " + deepest, deepest <= DEEPEST);
        System.out.println(wrong == 0 ? BODIES.size() + " methods, at most " + deepest + " deep" : wrong + " things are not as due");
        if (wrong != 0) System.exit(1);
    }

    private static void due(String what, boolean holds) {
        if (holds) return;
        wrong++;
        System.out.println("not so: " + what);
    }

    private static String plain(String text) {
        return text.replaceAll("(?s)/\\*.*?\\*/", "").replaceAll("//[^\n]*", "").replaceAll("\"[^\"\n]*\"", "\"\"");
    }

    private static int inset(String line) {
        return line.length() - line.stripLeading().length();
    }

    private static void readBodies(String code) {
        String within = OUTER;
        String method = null;
        int itsInset = 0;
        for (String line : code.split("\n")) {
            Matcher opens = CLASS.matcher(line);
            Matcher head = HEAD.matcher(line);
            Matcher field = FIELD.matcher(line);
            if (opens.matches()) {
                within = opens.group(1);
                BODIES.put(within + "." + within, new ArrayList<>());
            } else if (method != null && inset(line) == itsInset && line.strip().equals("}")) {
                method = null;
            } else if (method != null) {
                addCalls(method, within, line);
            } else if (head.matches()) {
                // behind the classes inside nothing of the outer one follows, so the class is the latest one
                method = within + "." + head.group(1);
                itsInset = inset(line);
                BODIES.computeIfAbsent(method, m -> new ArrayList<>());
            } else if (field.matches()) {
                addCalls(within + "." + within, within, field.group(1));
            }
        }
    }

    private static void addCalls(String method, String within, String line) {
        Matcher m = CALL.matcher(line);
        while (m.find()) {
            String name = m.group(3);
            if (NO_CALLS.contains(name)) continue;
            String owner = m.group(1) != null ? name : m.group(2) == null ? within : classOf(m.group(2));
            BODIES.get(method).add(owner + "." + name);
        }
    }

    private static String classOf(String receiver) {
        return Character.toUpperCase(receiver.charAt(0)) + receiver.substring(1);
    }

    /** The class's own compiled methods are all among those that were read, so none was overlooked. */
    private static void allMethodsAreSeen() {
        List<Class<?>> all = new ArrayList<>(List.of(SoupSand.class.getDeclaredClasses()));
        all.add(SoupSand.class);
        for (Class<?> c : all) {
            for (var m : c.getDeclaredMethods()) {
                String name = c.getSimpleName() + "." + m.getName();
                due(name + " is seen in the source", m.isSynthetic() || BODIES.containsKey(name));
            }
        }
    }

    /** A class inside calls its own method, or else the outer class's; all else is the library's. */
    private static String resolve(String call) {
        String name = call.substring(call.indexOf('.'));
        if (BODIES.containsKey(call)) return call;
        if (BODIES.containsKey(OUTER + name)) return OUTER + name;
        for (String own : BODIES.keySet()) due(call + " is the library's, not " + own, !own.endsWith(name));
        return call;
    }

    private static int depthOf(String method) {
        if (DEPTHS.containsKey(method)) return DEPTHS.get(method);
        if (!OPEN.add(method)) {
            due(method + " does not call itself, by others either", false);
            return 0;
        }
        int below = 0;
        for (String call : BODIES.getOrDefault(method, List.of())) below = Math.max(below, depthOf(resolve(call)));
        OPEN.remove(method);
        DEPTHS.put(method, below + 1);
        return below + 1;
    }
}
