import java.io.IOException;
import java.lang.reflect.Field;
import java.lang.reflect.Modifier;
import java.nio.file.Files;
import java.nio.file.Path;
import java.util.HashSet;
import java.util.Map;
import java.util.Set;
import java.util.TreeMap;
import java.util.TreeSet;
import java.util.regex.Matcher;
import java.util.regex.Pattern;

/** Rules of LANGUAGE.md that can be seen in the text of the class, so that none slips in unseen. */
public final class LanguageTest {
    private static final String[] NEVER = {"->", "::", "finally", "synchronized", "assert", "catch", "static {", "Exact(",
        "System.out", "Math.random", "nanoTime", "hashCode", "toString", "instanceof", "interface", "volatile", "native",
        "Thread", "File", "package ", "protected", "new ArrayList", "String.format", "double", "float"};
    private static final Pattern CALL = Pattern.compile("(\\w+)\\(");

    private final Check check = new Check();
    // Methods of one name are taken as one: so a call may seem deeper than it goes, never less deep.
    private final Map<String, Set<String>> calls = new TreeMap<>();

    public static void main(String[] args) throws IOException {
        LanguageTest test = new LanguageTest();
        String text = Files.readString(Path.of("src/main/java/OathWalls.java"));
        test.lookAtText(text);
        test.lookAtMethods(text.split("\n"));
        test.lookAtDepth();
        test.lookAtClasses();
        test.check.end();
    }

    private void lookAtText(String text) {
        StringBuilder code = new StringBuilder();
        int imports = 0;
        for (String line : text.split("\n")) {
            if (!isComment(line)) {
                imports += line.strip().startsWith("import") ? 1 : 0;
                code.append(line).append('\n');
            }
        }
        for (String word : NEVER) {
            check.is(word, code.indexOf(word), -1);
        }
        check.is("imports", imports, 1);
        check.is("signs are plain", text.chars().allMatch(c -> c == 10 || c >= 32 && c < 127), true);
    }

    private void lookAtMethods(String[] lines) {
        int open = 0;
        int start = -1;
        Set<String> inside = new HashSet<>();
        for (int number = 0; number < lines.length; number++) {
            String line = lines[number];
            String bare = line.strip();
            if (isComment(line)) {
                continue;
            }
            boolean head = line.matches(" {4,8}[A-Za-z].*[)] ?(throws \\w+ )?[{]");
            if (head && !bare.startsWith("if") && !bare.startsWith("for") && !bare.startsWith("while")) {
                start = number;
                open = line.indexOf(bare.charAt(0));
                int commas = bare.length() - bare.replace(",", "").length();
                check.is("line " + number + ": at most seven parameters", commas < 7, true);
                inside = calls.computeIfAbsent(nameIn(bare), name -> new TreeSet<>());
                continue;
            }
            Matcher called = CALL.matcher(line);
            while (start >= 0 && called.find()) {
                inside.add(called.group(1));
            }
            if (start >= 0 && bare.equals("}") && line.indexOf('}') == open) {
                check.is("line " + start + ": a short method", number - start <= 60, true);
                start = -1;
            }
        }
    }

    private void lookAtDepth() {
        check.is("methods found", calls.size() > 100, true);
        for (String name : calls.keySet()) {
            int depth = depth(name, new HashSet<>());
            check.is(name + ": at most eight deep, no recursion (" + depth + ")", depth <= 8, true);
        }
    }

    private int depth(String name, Set<String> above) {
        if (!calls.containsKey(name)) {
            return 0;
        }
        if (!above.add(name)) {
            return 1000;
        }
        int most = 0;
        for (String called : calls.get(name)) {
            most = Math.max(most, depth(called, above));
        }
        above.remove(name);
        return most + 1;
    }

    private void lookAtClasses() {
        int classes = 1 + OathWalls.class.getDeclaredClasses().length;
        check.is("at most twelve classes", classes <= 12, true);
        lookAtFields(OathWalls.class);
        for (Class<?> inside : OathWalls.class.getDeclaredClasses()) {
            lookAtFields(inside);
        }
    }

    private void lookAtFields(Class<?> some) {
        int own = 0;
        for (Field field : some.getDeclaredFields()) {
            if (Modifier.isStatic(field.getModifiers())) {
                check.is(some + " " + field.getName() + " is final", Modifier.isFinal(field.getModifiers()), true);
            } else {
                own++;
            }
        }
        check.is(some + ": at most twenty fields (" + own + ")", own <= 20, true);
    }

    private static boolean isComment(String line) {
        String bare = line.strip();
        return bare.startsWith("//") || bare.startsWith("*") || bare.startsWith("/*");
    }

    private static String nameIn(String head) {
        String before = head.substring(0, head.indexOf('('));
        return before.substring(before.lastIndexOf(' ') + 1);
    }
}
