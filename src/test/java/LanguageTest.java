import java.nio.file.Files;
import java.nio.file.Path;
import java.util.regex.Matcher;
import java.util.regex.Pattern;

/** Those rules of ../shared/LANGUAGE.md that the text of the program shows. Run from the project's folder. */
public final class LanguageTest {
    private static final String[] BANNED = {
        "->", "::", "\\bthrow\\b", "\\btry\\b", "\\bcatch\\b", "\\bfinally\\b", "\\bsynchronized\\b", "\\bassert\\b",
        "^package ", "\\bThread\\b", "\\bRandom\\b", "currentTimeMillis", "nanoTime", "\\bObject\\b", "Exact\\(",
        "\\binstanceof\\b", "\\bhashCode\\b", "toString", "\\bstatic \\{", "\\bprotected\\b", "\\bdouble\\b", "\\bfloat\\b"
    };

    public static void main(String[] args) throws Exception {
        Due due = new Due();
        String source = Files.readString(Path.of("src/main/java/EvenPurse.java"));
        String code = source.replaceAll("(?s)/\\*.*?\\*/", "").replaceAll("//[^\n]*", "");
        for (String banned : BANNED) {
            due.due("banned " + banned, Pattern.compile(banned, Pattern.MULTILINE).matcher(code).find() ? 1 : 0, 0);
        }
        imports(due, code);
        newObjects(due, code);
        methodLengths(due, source);
        due.end();
    }

    private static void imports(Due due, String code) {
        Matcher imports = Pattern.compile("^import ([^;]*);", Pattern.MULTILINE).matcher(code);
        while (imports.find()) {
            boolean known = imports.group(1).matches("java\\.util\\.(Arrays|ArrayList|List|Iterator)");
            due.due("import " + imports.group(1), known ? 1 : 0, 1);
        }
    }

    /** No call makes an object: all are made by fields and by the constructor, so that the room never fills. */
    private static void newObjects(Due due, String code) {
        for (String line : code.split("\n")) {
            if (line.matches(".*\\bnew\\b.*")) {
                boolean made = line.matches("\\s+private final .*") || line.contains("images[n] = new Town()");
                due.due("made outside a constructor: " + line.trim(), made ? 1 : 0, 1);
            }
        }
    }

    private static void methodLengths(Due due, String source) {
        int begin = 0;
        String[] lines = source.split("\n");
        for (int i = 0; i < lines.length; i++) {
            String line = lines[i];
            if (line.matches("(    |        )[A-Za-z].*\\) \\{") || line.matches("(    |        )[A-Za-z].*\\(.*[^;]")) {
                begin = i;
            }
            if (line.matches("(    |        )}") && begin > 0) {
                due.due("longer than 60 lines: " + lines[begin].trim(), i - begin > 60 ? 1 : 0, 0);
                begin = 0;
            }
        }
    }
}
