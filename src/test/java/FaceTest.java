import java.lang.reflect.Constructor;
import java.lang.reflect.Field;
import java.lang.reflect.Method;
import java.lang.reflect.Modifier;
import java.nio.charset.StandardCharsets;
import java.nio.file.Files;
import java.nio.file.Path;
import java.util.ArrayList;
import java.util.List;
import java.util.Set;
import java.util.TreeSet;
import java.util.regex.Matcher;
import java.util.regex.Pattern;

/** The public face is the document's and no more, and the source keeps to what can be seen of LANGUAGE.md. */
public final class FaceTest {
    private static final String[] FACE = {
        "int column(int,int,int)", "int layer(int,int,int,int)", "int loose(int,int,int,int)", "int about(int,int,int)",
        "int shake(int)", "int beat(int,int)", "int count(int)", "int run(int,int,int,int)", "int choices(int,int,int,int)",
        "long odds(int,int,int,int)", "int step(int,int,int,int)", "int word(int,int,int,int,int)", "int strike(int,boolean)",
        "int bars(int)", "int toStrike(int)", "int house(int,int,int)", "int sink(int,int,int)", "long sunk(int,int,int)",
        "int led(int,int,int)", "int lean(int,int,int)", "int tank(int,int,int,int)", "int floats(int,int)",
        "long margin(int,int,int,int,int)", "long least(int,int)", "int work(int,int,int,int)", "int stands(int)",
        "int plan(int)", "long loss()", "int feed(int,long)", "int read()", "int fault()", "int rule(int)"};
    private static final String[] CONSTANTS = {"NONE -1", "UNKNOWN -1001", "OUTSIDE -1002", "NOT -1003", "FULL -1004", "QUARREL -1005"};
    private static int wrong = 0;

    private static void due(String what, boolean holds) {
        if (holds) return;
        wrong++;
        System.out.println("not so: " + what);
    }

    public static void main(String[] args) throws Exception {
        members();
        classesInside();
        source();
        System.out.println(wrong == 0 ? "the face is as due" : wrong + " things are not as due");
        if (wrong != 0) System.exit(1);
    }

    private static String signature(Method m) {
        StringBuilder s = new StringBuilder(m.getReturnType().getName()).append(' ').append(m.getName()).append('(');
        for (int i = 0; i < m.getParameterCount(); i++) s.append(i > 0 ? "," : "").append(m.getParameterTypes()[i].getName());
        return s.append(')').toString();
    }

    private static void members() throws Exception {
        due("the class is public and final", Modifier.isPublic(SoupSand.class.getModifiers()) && Modifier.isFinal(SoupSand.class.getModifiers()));
        Set<String> open = new TreeSet<>();
        for (Method m : SoupSand.class.getDeclaredMethods()) {
            if (Modifier.isPrivate(m.getModifiers())) continue;
            due(m + " is public and no static method", Modifier.isPublic(m.getModifiers()) && !Modifier.isStatic(m.getModifiers()));
            open.add(signature(m));
        }
        due("the methods are those of the document: " + open, open.equals(new TreeSet<>(List.of(FACE))));
        Set<String> constants = new TreeSet<>();
        for (Field f : SoupSand.class.getDeclaredFields()) {
            if (Modifier.isPrivate(f.getModifiers())) continue;
            due(f + " is a constant", Modifier.isPublic(f.getModifiers()) && Modifier.isStatic(f.getModifiers()) && Modifier.isFinal(f.getModifiers()));
            constants.add(f.getName() + " " + f.getInt(null));
        }
        due("the constants are those of the document: " + constants, constants.equals(new TreeSet<>(List.of(CONSTANTS))));
        Constructor<?>[] made = SoupSand.class.getDeclaredConstructors();
        due("one constructor, public, without arguments", made.length == 1 && Modifier.isPublic(made[0].getModifiers()) && made[0].getParameterCount() == 0);
    }

    private static void classesInside() {
        Set<String> names = new TreeSet<>();
        for (Method m : SoupSand.class.getMethods()) if (m.getDeclaringClass() == SoupSand.class) names.add(m.getName());
        List<Class<?>> all = new ArrayList<>(List.of(SoupSand.class.getDeclaredClasses()));
        due("twelve classes at most", all.size() + 1 <= 12);
        for (Class<?> c : all) {
            due(c + " is static and not public", Modifier.isStatic(c.getModifiers()) && !Modifier.isPublic(c.getModifiers()));
            for (Method m : c.getDeclaredMethods()) due(m + " has a name of its own", !names.contains(m.getName()));
        }
        all.add(SoupSand.class);
        for (Class<?> c : all) {
            int fields = 0;
            for (Field f : c.getDeclaredFields()) {
                if (!Modifier.isStatic(f.getModifiers())) fields++;
                else due(f + " is final", Modifier.isFinal(f.getModifiers()));
            }
            due(c + " has twenty fields at most", fields <= 20);
            for (Method m : c.getDeclaredMethods()) {
                due(m + " takes seven at most", m.getParameterCount() <= 7);
                due(m + " has a name of its own", c == SoupSand.class && Modifier.isPublic(m.getModifiers()) || !names.contains(m.getName()));
            }
        }
    }

    private static void source() throws Exception {
        String text = new String(Files.readAllBytes(Path.of("src/main/java/SoupSand.java")), StandardCharsets.ISO_8859_1);
        for (int i = 0; i < text.length(); i++) due("sign " + i + " is one of 10, 32 to 126", text.charAt(i) == 10 || text.charAt(i) >= 32 && text.charAt(i) <= 126);
        String code = text.replaceAll("(?s)/\\*.*?\\*/", "").replaceAll("//[^\n]*", "").replaceAll("\"[^\"\n]*\"", "\"\"");
        String[] barred = {"throw", "throws", "try", "catch", "finally", "synchronized", "assert", "import", "package", "equals",
            "hashCode", "toString", "System\\.(?!arraycopy)\\w+", "Thread", "Random", "->", "::", "\\w+Exact", "this\\)", "this,"};
        for (String b : barred) {
            Matcher m = Pattern.compile(Character.isLetter(b.charAt(0)) || b.startsWith("\\w") ? "\\b" + b : b).matcher(code);
            due("there is no " + b, !m.find());
        }
        methodsAreShort(code);
    }

    /** A method's lines are those from its head to the brace as far in as its head. */
    private static void methodsAreShort(String code) {
        String[] lines = code.split("\n");
        int head = -1;
        int inset = 0;
        for (int i = 0; i < lines.length; i++) {
            int blanks = lines[i].length() - lines[i].stripLeading().length();
            boolean opens = lines[i].endsWith(") {") && (blanks == 4 || blanks == 8) && !lines[i].matches(" *(if|for|while|switch|else).*");
            if (opens && head < 0) {
                head = i;
                inset = blanks;
            }
            if (head >= 0 && lines[i].strip().equals("}") && blanks == inset) {
                due("sixty lines at most from line " + (head + 1), i - head + 1 <= 60);
                head = -1;
            }
        }
    }
}
