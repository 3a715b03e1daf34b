import java.lang.reflect.Field;
import java.lang.reflect.Method;
import java.lang.reflect.Modifier;
import java.nio.file.Files;
import java.nio.file.Path;
import java.util.ArrayList;
import java.util.HashMap;
import java.util.List;
import java.util.Map;
import java.util.Set;
import java.util.TreeMap;
import java.util.TreeSet;
import java.util.regex.Matcher;
import java.util.regex.Pattern;

/**
 * README.md keeps its word: every line of its Java examples is called and answers as it says there, every
 * call has an example, and its tables have the document's calls, refusals and constants.
 */
public final class ReadmeTest {
    private static final Pattern MADE = Pattern.compile("SoupSand x = new SoupSand\\(\\);");
    private static final Pattern CALL = Pattern.compile("(?:(?:int|long) (\\w+) = )?x\\.(\\w+)\\(([^)]*)\\);\\s*// (-?\\d+|[A-Z]+)\\b.*");
    private static final Pattern ROW = Pattern.compile("\\| `(\\w+)\\(([^)]*)\\)` \\| .+ \\| ?(.*?) ?\\|");
    private static final Pattern CONSTANT_ROW = Pattern.compile("\\| `([A-Z]+)` \\| (-?\\d+) \\| .+ \\|");
    private static final Pattern PROMISE = Pattern.compile("`(?:int|long) (\\w+)\\(([^)]*)\\)`: (.*)");
    private static final Pattern REFUSAL = Pattern.compile("\\b(UNKNOWN|OUTSIDE|NOT|FULL|QUARREL)\\b");

    private static final Map<String, Method> METHODS = new TreeMap<>();
    private static final Map<String, Long> CONSTANTS = new TreeMap<>();
    private static int asked = 0;
    private static int wrong = 0;

    public static void main(String[] args) throws Exception {
        lookAtFace();
        List<String> page = Files.readAllLines(Path.of("README.md"));
        Set<String> shown = new TreeSet<>();
        for (List<String> example : examples(page)) play(example, shown);
        due("every call has an example, none is left of " + left(shown), left(shown).isEmpty());
        callsAreTheDocuments(page);
        constantsAreTheClass(page);
        System.out.println(wrong == 0 ? "all " + asked + " lines of README.md are as due" : wrong + " lines of README.md are not as due");
        if (wrong != 0) System.exit(1);
    }

    private static void due(String what, boolean holds) {
        asked++;
        if (holds) return;
        wrong++;
        System.out.println("not so: " + what);
    }

    private static void lookAtFace() throws Exception {
        for (Method m : SoupSand.class.getDeclaredMethods()) {
            if (Modifier.isPublic(m.getModifiers())) METHODS.put(m.getName(), m);
        }
        for (Field f : SoupSand.class.getFields()) CONSTANTS.put(f.getName(), (long) f.getInt(null));
    }

    private static Set<String> left(Set<String> shown) {
        Set<String> left = new TreeSet<>(METHODS.keySet());
        left.removeAll(shown);
        return left;
    }

    // ---- examples

    private static List<List<String>> examples(List<String> page) {
        List<List<String>> all = new ArrayList<>();
        boolean within = false;
        for (String line : page) {
            if (line.equals("```java")) {
                within = true;
                all.add(new ArrayList<>());
            } else if (line.startsWith("```")) {
                within = false;
            } else if (within) {
                all.get(all.size() - 1).add(line);
            }
        }
        due("there are examples", !all.isEmpty());
        return all;
    }

    /** An example makes its own object in its first line, and asks something in each line behind that. */
    private static void play(List<String> example, Set<String> shown) throws Exception {
        due("an example begins with a new object: " + example, MADE.matcher(example.get(0)).matches());
        SoupSand x = new SoupSand();
        Map<String, Long> kept = new HashMap<>();
        for (String line : example.subList(1, example.size())) {
            Matcher m = CALL.matcher(line);
            if (!m.matches() || !METHODS.containsKey(m.group(2))) {
                due("a line is a call with its answer: " + line, false);
                continue;
            }
            long got = call(x, METHODS.get(m.group(2)), m.group(3), kept);
            due(line + " (answered " + got + ")", got == number(m.group(4), kept));
            if (m.group(1) != null) kept.put(m.group(1), got);
            shown.add(m.group(2));
        }
    }

    private static long call(SoupSand x, Method method, String list, Map<String, Long> kept) throws Exception {
        String[] words = list.isBlank() ? new String[0] : list.split(", ");
        Class<?>[] types = method.getParameterTypes();
        Object[] values = new Object[types.length];
        for (int i = 0; i < types.length; i++) values[i] = value(types[i], i < words.length ? words[i] : "", kept);
        due(method.getName() + "(" + list + ") has as many arguments as it takes", words.length == types.length);
        return ((Number) method.invoke(x, values)).longValue();
    }

    private static Object value(Class<?> type, String word, Map<String, Long> kept) {
        if (type == boolean.class) return Boolean.valueOf(word);
        long number = number(word, kept);
        return type == int.class ? (Object) Math.toIntExact(number) : (Object) number;
    }

    /** A figure as Java writes it, a constant of the class, or what an earlier line keeps. */
    private static long number(String word, Map<String, Long> kept) {
        if (kept.containsKey(word)) return kept.get(word);
        if (CONSTANTS.containsKey(word)) return CONSTANTS.get(word);
        return Long.decode(word.replaceAll("L$", ""));
    }

    // ---- tables

    /** What a call takes and by what it is refused, in one line. */
    private static String face(String name, String parameters, String refusals) {
        StringBuilder line = new StringBuilder(name).append('(').append(parameters).append(')');
        Matcher m = REFUSAL.matcher(refusals);
        while (m.find()) line.append(' ').append(m.group());
        return line.toString();
    }

    private static void callsAreTheDocuments(List<String> page) throws Exception {
        List<String> told = new ArrayList<>();
        for (String line : page) {
            Matcher m = ROW.matcher(line);
            if (m.matches()) told.add(face(m.group(1), m.group(2), m.group(3)));
        }
        List<String> promised = new ArrayList<>();
        for (String line : Files.readAllLines(Path.of("../shared/DOC.md"))) {
            Matcher m = PROMISE.matcher(line);
            // the one promise that names a refusal without refusing by it
            if (m.matches()) promised.add(face(m.group(1), m.group(2).replaceAll("\\w+ (\\w+)", "$1"), m.group(3).replace("do not QUARREL", "")));
        }
        due("the document promises all calls, not " + promised.size(), promised.size() == METHODS.size());
        for (int i = 0; i < Math.max(told.size(), promised.size()); i++) {
            String here = i < told.size() ? told.get(i) : "nothing";
            String there = i < promised.size() ? promised.get(i) : "nothing";
            due("the table says '" + here + "', the document '" + there + "'", here.equals(there));
        }
    }

    private static void constantsAreTheClass(List<String> page) {
        Map<String, Long> told = new TreeMap<>();
        for (String line : page) {
            Matcher m = CONSTANT_ROW.matcher(line);
            if (m.matches()) told.put(m.group(1), Long.valueOf(m.group(2)));
            if (line.startsWith("`NONE`, -1,")) told.put("NONE", -1L);
        }
        due("the constants are " + CONSTANTS + ", not " + told, told.equals(CONSTANTS));
    }
}
