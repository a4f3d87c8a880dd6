import java.io.IOException;
import java.lang.reflect.Method;
import java.lang.reflect.Modifier;
import java.net.URL;
import java.net.URLClassLoader;
import java.nio.file.Files;
import java.nio.file.Path;
import java.util.ArrayList;
import java.util.Comparator;
import java.util.List;
import java.util.regex.Matcher;
import java.util.regex.Pattern;
import java.util.stream.Stream;
import javax.tools.JavaCompiler;
import javax.tools.ToolProvider;

/**
 * What README.md shows as use of the class: its pieces of Java are taken from it as they stand, compiled as one program
 * and run, and each answer is held against the one that README.md tells behind //.
 */
public final class ReadmeTest {
    private static final Checks checks = new Checks("ReadmeTest");
    private static final Pattern TOLD = Pattern.compile("(?:\\w+ (\\w+) = )?(.+);\\s+// (\\S+?)(?:: .*)?");

    private final List<String> methods = new ArrayList<>();
    private final List<String> shown = new ArrayList<>();
    private final List<String> asking = new ArrayList<>();
    private final List<String> lines = new ArrayList<>();
    private final List<String> told = new ArrayList<>();

    public static void main(String[] args) throws IOException, ReflectiveOperationException {
        ReadmeTest test = new ReadmeTest();
        test.takePieces(Files.readAllLines(Path.of(args.length > 0 ? args[0] : "README.md")));
        test.eachCallIsShown();
        Path out = Files.createTempDirectory("readme");
        try {
            compile(out, "Shown", test.program("Shown", test.shown));
            compile(out, "Asking", test.program("Asking", test.asking));
            test.compare(answers(out));
        } finally {
            deleteAll(out);
        }
        checks.end();
    }

    /** A piece that begins with static is a method; the others are one after the other the lines of main. */
    private void takePieces(List<String> readme) {
        List<String> piece = null;
        for (String line : readme) {
            if (line.equals("```java")) {
                piece = new ArrayList<>();
            } else if (line.equals("```") && piece != null) {
                takePiece(piece);
                piece = null;
            } else if (piece != null) {
                piece.add(line);
            }
        }
        checks.due("the last piece has an end", piece == null, true);
    }

    private void takePiece(List<String> piece) {
        if (!piece.isEmpty() && piece.get(0).startsWith("static ")) {
            methods.addAll(piece);
            return;
        }
        for (String line : piece) {
            takeLine(line);
        }
    }

    private void takeLine(String line) {
        Matcher matcher = TOLD.matcher(line);
        boolean isTold = matcher.matches();
        boolean asks = line.contains("x.") || line.contains("(x");
        checks.due("README.md tells the answer of: " + line, isTold, asks);
        shown.add(line);
        if (!isTold) {
            asking.add(line);
            return;
        }
        lines.add(line);
        told.add(matcher.group(3));
        String name = matcher.group(1);
        asking.add(name == null ? "answers.add(String.valueOf(" + matcher.group(2) + "));"
            : line + "\nanswers.add(String.valueOf(" + name + "));");
    }

    private void eachCallIsShown() {
        String all = String.join("\n", methods) + String.join("\n", shown);
        for (Method method : TellFirst.class.getDeclaredMethods()) {
            if (Modifier.isPublic(method.getModifiers())) {
                checks.due("README.md shows " + method.getName(), all.contains("x." + method.getName() + "("), true);
            }
        }
    }

    private String program(String name, List<String> body) {
        return "public class " + name + " {\n"
            + "public static final java.util.List<String> answers = new java.util.ArrayList<>();\n"
            + String.join("\n", methods) + "\npublic static void main(String[] args) {\n"
            + String.join("\n", body) + "\n}\n}\n";
    }

    private static void compile(Path out, String name, String program) throws IOException {
        Path file = Files.writeString(out.resolve(name + ".java"), program);
        JavaCompiler compiler = ToolProvider.getSystemJavaCompiler();
        int code = compiler == null ? -1 : compiler.run(null, null, null, "--release", "17", "-d", out.toString(),
            "-cp", System.getProperty("java.class.path"), file.toString());
        checks.due("javac of what README.md shows", code, 0);
    }

    private static List<String> answers(Path out) throws IOException, ReflectiveOperationException {
        List<String> answers = new ArrayList<>();
        if (!Files.exists(out.resolve("Asking.class"))) {
            return answers;
        }
        try (URLClassLoader loader = new URLClassLoader(new URL[] {out.toUri().toURL()})) {
            Class<?> program = loader.loadClass("Asking");
            program.getMethod("main", String[].class).invoke(null, (Object) new String[0]);
            for (Object answer : (List<?>) program.getField("answers").get(null)) {
                answers.add(answer.toString());
            }
        }
        return answers;
    }

    private void compare(List<String> answers) {
        checks.due("README.md tells answers", told.isEmpty(), false);
        checks.due("as many answers as are told", answers.size(), told.size());
        for (int i = 0; i < answers.size() && i < told.size(); i++) {
            String what = "README.md: " + lines.get(i).strip() + " -- answered " + answers.get(i) + "; that it is as told";
            checks.due(what, answers.get(i).equals(told.get(i)), true);
        }
    }

    private static void deleteAll(Path folder) throws IOException {
        List<Path> all;
        try (Stream<Path> walked = Files.walk(folder)) {
            all = walked.sorted(Comparator.reverseOrder()).toList();
        }
        for (Path one : all) {
            Files.delete(one);
        }
    }
}
