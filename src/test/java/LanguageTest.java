import java.io.IOException;
import java.nio.file.Files;
import java.nio.file.Path;
import java.util.regex.Matcher;
import java.util.regex.Pattern;

/** Rules of LANGUAGE.md that can be seen in the text of the class. */
public final class LanguageTest {
    private static final Checks checks = new Checks("LanguageTest");

    private static final String[] FORBIDDEN = {
        "\\bthrow\\b", "\\bthrows\\b", "\\btry\\b", "\\bcatch\\b", "\\bfinally\\b", "\\bsynchronized\\b", "\\bassert\\b",
        "->", "::", "\\bpackage\\b", "\\bSystem\\.(?!arraycopy)", "\\bMath\\.\\w*Exact\\b", "\\bThread\\b", "\\bRandom\\b",
        "\\bObject\\b", "\\bString\\[\\]", "\\[\\]\\[\\]\\[\\]", "\\bstatic\\s*\\{", "\\bprotected\\b", "\\bvar\\b",
        "while \\(true\\)", "for \\(;;", "\\bhashCode\\b", "\\btoString\\b", "\\bnew \\w+\\(\\)\\s*\\{"};

    public static void main(String[] args) throws IOException {
        String text = Files.readString(Path.of("src/main/java/TellFirst.java"));
        for (int i = 0; i < text.length(); i++) {
            char c = text.charAt(i);
            checks.due("a plain sign at " + i, c == '\n' || c >= 32 && c < 127, true);
        }
        String code = text.replaceAll("(?s)/\\*.*?\\*/", "").replaceAll("//[^\n]*", "");
        for (String one : FORBIDDEN) {
            Matcher found = Pattern.compile(one).matcher(code);
            checks.due("no " + one, found.find(), false);
        }
        Matcher imports = Pattern.compile("import ([^;]*);").matcher(code);
        while (imports.find()) {
            checks.due("import " + imports.group(1), imports.group(1).equals("java.util.Arrays"), true);
        }
        methodLengths(code);
        rowsAreMadeOnce(code);
        checks.end();
    }

    private static void methodLengths(String code) {
        String[] lines = code.split("\n");
        int start = -1;
        String head = "";
        for (int i = 0; i < lines.length; i++) {
            boolean opens = lines[i].matches("( {4}| {8})[a-z].*\\(.*\\{") || lines[i].matches(" {16}int depth\\) \\{");
            if (opens && !lines[i].contains(" class ")) {
                start = i;
                head = lines[i].trim();
            }
            if (start >= 0 && lines[i].matches("( {4}| {8})\\}")) {
                checks.due("lines of " + head, i - start < 60, true);
                start = -1;
            }
        }
    }

    /** The room is small: whatever is made is made with the object, so each 'new' stands in a field or the constructor. */
    private static void rowsAreMadeOnce(String code) {
        for (String line : code.split("\n")) {
            if (line.contains("new ") && !line.contains("private final")) {
                checks.due("made once: " + line, line.trim().equals("trays[i] = new Tray();"), true);
            }
        }
    }
}
