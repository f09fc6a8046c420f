import java.io.IOException;
import java.lang.reflect.Constructor;
import java.lang.reflect.Field;
import java.lang.reflect.Method;
import java.lang.reflect.Modifier;
import java.nio.charset.StandardCharsets;
import java.nio.file.Files;
import java.nio.file.Path;
import java.util.ArrayList;
import java.util.List;
import java.util.Set;
import java.util.TreeSet;
import java.util.regex.Matcher;
import java.util.regex.Pattern;

/** What of ../shared/LANGUAGE.md can be seen from the file's text and from the class's face. */
public final class LanguageTest {
    private static final Checks checks = new Checks("LanguageTest");
    private static final Path FILE = Path.of("src/main/java/RingCounts.java");
    private static final String[] FACE = {
        "int add(int,int,int)", "int cut(int,int)", "long worth(int,int)", "int of(int,int)", "int two(int,int,int)",
        "int edge(int,int,int)", "int swap(int,int,int,int)", "long near(int)", "long told(int)", "int truss(int)",
        "int pieces(int)", "int hood(int,int,int)", "int hoods(int)", "long core(int)", "int peeled(int,int)",
        "long closed(int,int)", "long value()", "int broken(int)", "int fewest()", "int feed(int)", "int clear()",
        "int batch()", "int pick()", "long picked()", "int spell()", "int paper(int)", "int back(int)",
        "int list(int,int)", "int set(int,int,long)", "long get(int,int)", "int move(int,int,int,int,int)",
        "int lay(int,int,int)", "int judge(int,int,int)", "int image()", "int undo()"};
    private static final String[] CONSTANTS = {"NONE", "BAD", "STATE", "FULL", "NO", "OVER"};
    private static final String[] FORBIDDEN = {
        "->", "::", "@", "\\bsynchronized\\b", "\\bassert\\b", "\\bfinally\\b", "\\btry\\b", "\\bcatch\\b",
        "\\bthrow\\b", "\\bthrows\\b", "\\bpackage\\b", "\\bnative\\b", "\\bvolatile\\b", "\\bvar\\b", "Exact\\(",
        "\\bMap\\b", "\\bSet\\b", "\\bSystem\\.(?!arraycopy)", "\\bRandom\\b", "\\bThread\\b", "\\btoString\\(",
        "\\bhashCode\\(", "\\bequals\\(", "\\bstatic \\{"};

    private static String signature(Method m) {
        StringBuilder text = new StringBuilder(m.getReturnType().getSimpleName()).append(' ').append(m.getName());
        List<String> types = new ArrayList<>();
        for (Class<?> type : m.getParameterTypes()) {
            types.add(type.getSimpleName());
        }
        return text.append('(').append(String.join(",", types)).append(')').toString();
    }

    private static void face() {
        Set<String> open = new TreeSet<>();
        Set<String> openNames = new TreeSet<>();
        for (Method m : RingCounts.class.getDeclaredMethods()) {
            if (!Modifier.isPrivate(m.getModifiers())) {
                open.add(signature(m));
                openNames.add(m.getName());
                checks.holds(m.getName() + " is public and no static", Modifier.isPublic(m.getModifiers())
                    && !Modifier.isStatic(m.getModifiers()));
                checks.due("exceptions of " + m.getName(), 0, m.getExceptionTypes().length);
            }
        }
        checks.dueText("the face", new TreeSet<>(List.of(FACE)).toString(), open.toString());
        Set<String> constants = new TreeSet<>();
        for (Field f : RingCounts.class.getDeclaredFields()) {
            if (!Modifier.isPrivate(f.getModifiers())) {
                constants.add(f.getName());
                checks.holds(f.getName() + " is a constant", Modifier.isPublic(f.getModifiers())
                    && Modifier.isStatic(f.getModifiers()) && Modifier.isFinal(f.getModifiers()));
            }
        }
        checks.dueText("the constants", new TreeSet<>(List.of(CONSTANTS)).toString(), constants.toString());
        Constructor<?>[] constructors = RingCounts.class.getDeclaredConstructors();
        checks.due("constructors", 1, constructors.length);
        checks.due("what a constructor takes", 0, constructors[0].getParameterCount());
        checks.holds("the class is public and final", Modifier.isPublic(RingCounts.class.getModifiers())
            && Modifier.isFinal(RingCounts.class.getModifiers()));
        inside(openNames);
    }

    private static void inside(Set<String> openNames) {
        List<Class<?>> all = new ArrayList<>(List.of(RingCounts.class.getDeclaredClasses()));
        checks.holds("some twelve classes", all.size() < 12);
        all.add(RingCounts.class);
        for (Class<?> c : all) {
            int fields = 0;
            for (Field f : c.getDeclaredFields()) {
                boolean constant = Modifier.isStatic(f.getModifiers());
                fields += constant ? 0 : 1;
                checks.holds("static " + f.getName() + " is final", !constant || Modifier.isFinal(f.getModifiers()));
            }
            checks.holds("some twenty fields of " + c.getSimpleName(), fields <= 20);
            checks.holds(c.getSimpleName() + " is static or the outer one", c == RingCounts.class
                || Modifier.isStatic(c.getModifiers()) && !Modifier.isPublic(c.getModifiers()));
            for (Method m : c.getDeclaredMethods()) {
                checks.holds(m.getName() + " takes seven at most", m.getParameterCount() <= 7);
                checks.holds(m.getName() + " is private by a public name", c == RingCounts.class
                    && !Modifier.isPrivate(m.getModifiers()) || !openNames.contains(m.getName()));
            }
        }
    }

    private static String withoutComments(String text) {
        return text.replaceAll("(?s)/\\*.*?\\*/", "").replaceAll("//[^\n]*", "");
    }

    private static void text() throws IOException {
        String text = Files.readString(FILE, StandardCharsets.UTF_8);
        for (char c : text.toCharArray()) {
            if (c > 126 || c < ' ' && c != '\n') {
                checks.holds("sign " + (int) c + " may stand", false);
            }
        }
        String code = withoutComments(text);
        for (String forbidden : FORBIDDEN) {
            Matcher found = Pattern.compile(forbidden).matcher(code);
            checks.holds(forbidden + " doesn't stand in the code", !found.find());
        }
        Matcher imports = Pattern.compile("import ([^;]+);").matcher(code);
        while (imports.find()) {
            checks.dueText("import", "java.util.Arrays", imports.group(1));
        }
        methodsAreShort(text);
    }

    private static void methodsAreShort(String text) {
        String[] lines = text.split("\n");
        int methods = 0;
        for (int i = 0; i < lines.length; i++) {
            Matcher head = Pattern.compile("^( {4}| {8})[a-zA-Z][^=;]*\\(.*\\{$").matcher(lines[i]);
            if (!head.find() || lines[i].matches(" *(if|for|while|switch|else|do)\\b.*")) {
                continue;
            }
            int end = i;
            while (end < lines.length && !lines[end].equals(head.group(1) + "}")) {
                end++;
            }
            methods++;
            checks.holds("sixty lines at most from line " + (i + 1) + " on", end - i + 1 <= 60);
        }
        checks.holds("methods were found", methods > 80);
    }

    public static void main(String[] args) throws IOException {
        face();
        text();
        checks.end();
    }
}
