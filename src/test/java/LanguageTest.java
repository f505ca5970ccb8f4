import java.io.IOException;
import java.nio.file.Files;
import java.nio.file.Path;

/** Rules of LANGUAGE.md that can be seen in the text of the class, so that none slips in unseen. */
public final class LanguageTest {
    private static final String[] NEVER = {"->", "::", "finally", "synchronized", "assert", "catch", "static {", "Exact(",
        "System.out", "Math.random", "nanoTime", "hashCode", "toString", "instanceof", "interface", "volatile", "native",
        "Thread", "File", "package ", "protected", "new ArrayList", "String.format", "double", "float"};

    public static void main(String[] args) throws IOException {
        Check check = new Check();
        String text = Files.readString(Path.of("src/main/java/OathWalls.java"));
        StringBuilder code = new StringBuilder();
        int imports = 0;
        int open = 0;
        int start = -1;
        int number = 0;
        for (String line : text.split("\n")) {
            number++;
            String bare = line.strip();
            if (bare.startsWith("//") || bare.startsWith("*") || bare.startsWith("/*")) {
                continue;
            }
            imports += bare.startsWith("import") ? 1 : 0;
            code.append(line).append('\n');
            boolean head = line.matches(" {4,8}[A-Za-z].*[)] ?(throws \\w+ )?[{]");
            if (head && !bare.startsWith("if") && !bare.startsWith("for") && !bare.startsWith("while")) {
                start = number;
                open = line.indexOf(bare.charAt(0));
                int commas = bare.length() - bare.replace(",", "").length();
                check.is("line " + number + ": at most seven parameters", commas < 7, true);
            }
            if (start >= 0 && bare.equals("}") && line.indexOf('}') == open) {
                check.is("line " + start + ": a short method", number - start <= 60, true);
                start = -1;
            }
        }
        for (String word : NEVER) {
            check.is(word, code.indexOf(word), -1);
        }
        check.is("imports", imports, 1);
        check.is("signs are plain", text.chars().allMatch(c -> c == 10 || c >= 32 && c < 127), true);
        check.end();
    }
}
