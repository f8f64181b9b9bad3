import java.io.IOException;
import java.lang.reflect.Method;
import java.net.URL;
import java.net.URLClassLoader;
import java.nio.file.Files;
import java.nio.file.Path;
import java.util.ArrayList;
import java.util.List;
import java.util.Set;
import java.util.TreeSet;
import java.util.regex.Matcher;
import java.util.regex.Pattern;
import java.util.stream.Stream;
import javax.tools.JavaCompiler;
import javax.tools.ToolProvider;

/**
 * README.md against the class and the document: the calls that it shows are made, in their order, and their answers
 * are looked at; its list of calls has each of the face with the refusals that the document names, its list of tests
 * each test. Run where the project's root is.
 */
public final class ReadmeTest {
    /** A call that is shown stands at the line's beginning, its answer first behind the sign of a comment. */
    private static final Pattern SHOWN =
        Pattern.compile("(x\\.(\\w+)\\([^;]*\\)); +// (-?\\d+|[A-Z]+)(: \\S.*)?");
    private static final Pattern BLOCK = Pattern.compile("(?s)```java\\n(.*?)```");
    private static final Pattern FACE = Pattern.compile("(?m)^    public (int|long) (\\w+)\\(([^)]*)\\);$");
    private static final Pattern ROW = Pattern.compile("(?m)^\\| `(\\w+)\\(([^)]*)\\)` \\|(.*)\\|([^|]*)\\|$");
    private static final Pattern REFUSAL = Pattern.compile("\\b(UNKNOWN|OUTSIDE|STATE|FULL)\\b");
    private static final String NEW_OBJECT = "BowlState x = new BowlState();";

    private static final Due DUE = new Due();
    private static final Set<String> CALLED = new TreeSet<>();

    public static void main(String[] args) throws Exception {
        String readme = Files.readString(Path.of("README.md"));
        run(programOf(readme));
        Document document = new Document();
        calls(readme, document);
        limits(readme);
        tests(readme);
        DUE.end();
    }

    private static String programOf(String readme) {
        StringBuilder body = new StringBuilder();
        Matcher block = BLOCK.matcher(readme);
        int objects = 0;
        while (block.find()) {
            for (String line : block.group(1).split("\n")) {
                if (line.equals(NEW_OBJECT)) {
                    body.append(objects++ > 0 ? "}\n" : "").append("{\n");
                }
                body.append(checked(line)).append('\n');
            }
        }
        DUE.holds("calls are shown on some objects", objects > 0);
        return "public final class Readme {\npublic static void calls(java.util.List<String> shown, "
            + "java.util.List<Long> answers) {\n" + body + "}\n}\n}\n";
    }

    /** The line as it is, or, if it is a call that is shown, with its answer put by, beside the one that is due. */
    private static String checked(String line) {
        Matcher call = SHOWN.matcher(line);
        if (!call.matches()) {
            DUE.holds("a call is shown with its answer: " + line, !line.startsWith("x."));
            return line;
        }
        CALLED.add(call.group(2));
        String due = call.group(3).matches("[A-Z]+") ? "BowlState." + call.group(3) : call.group(3);
        String told = call.group(1).replace("\\", "\\\\").replace("\"", "\\\"");
        return "shown.add(\"" + told + "\"); answers.add((long) " + call.group(1) + "); answers.add((long) " + due
            + (due.startsWith("B") ? "" : "L") + ");";
    }

    private static void run(String program) throws Exception {
        Path where = Files.createTempDirectory("readme");
        try {
            Path file = Files.writeString(where.resolve("Readme.java"), program);
            JavaCompiler compiler = ToolProvider.getSystemJavaCompiler();
            int end = compiler.run(null, null, null, "--release", "17", "-encoding", "UTF-8", "-classpath",
                System.getProperty("java.class.path"), "-d", where.toString(), file.toString());
            DUE.is("what README shows is Java", end, 0);
            if (end == 0) {
                lookAtAnswers(where);
            }
        } finally {
            remove(where);
        }
    }

    private static void lookAtAnswers(Path where) throws Exception {
        List<String> shown = new ArrayList<>();
        List<Long> answers = new ArrayList<>();
        try (URLClassLoader loader = new URLClassLoader(new URL[] {where.toUri().toURL()})) {
            Method calls = loader.loadClass("Readme").getMethod("calls", List.class, List.class);
            calls.invoke(null, shown, answers);
        }
        for (int i = 0; i < shown.size(); i++) {
            DUE.is("README, call " + (i + 1) + ": " + shown.get(i), answers.get(2 * i), answers.get(2 * i + 1));
        }
    }

    private static void remove(Path where) throws IOException {
        try (Stream<Path> files = Files.list(where)) {
            for (Path file : files.toList()) {
                Files.delete(file);
            }
        }
        Files.delete(where);
    }

    /** The list of calls: those of the document's face, in its order, each with the refusals of its promise. */
    private static void calls(String readme, Document document) {
        List<String> face = new ArrayList<>();
        Matcher method = FACE.matcher(document.section("The public face"));
        while (method.find()) {
            String parameters = method.group(3).replaceAll("\\b(int|long|boolean) ", "");
            face.add(method.group(2) + "(" + parameters + ")");
            DUE.holds(method.group(2) + " is shown with an answer", CALLED.contains(method.group(2)));
        }
        List<String> listed = new ArrayList<>();
        Matcher row = ROW.matcher(readme);
        while (row.find()) {
            listed.add(row.group(1) + "(" + row.group(2) + ")");
            // Promise 1 is the constructor, so the first call is promise 2.
            String promise = document.promise(listed.size() + 1);
            DUE.holds("README tells the refusals of " + row.group(1) + ": " + refusals(promise),
                refusals(row.group(4)).equals(refusals(promise)));
        }
        DUE.holds("README lists the calls of the face: " + listed, listed.equals(face) && face.size() == 30);
    }

    private static List<String> refusals(String words) {
        List<String> all = new ArrayList<>();
        Matcher refusal = REFUSAL.matcher(words);
        while (refusal.find()) {
            all.add(refusal.group());
        }
        return all;
    }

    private static void limits(String readme) {
        DUE.holds("README tells for how many calls an object is used", readme.contains("512 calls at most"));
        String[] names = {"UNKNOWN", "OUTSIDE", "STATE", "FULL", "NONE"};
        int[] values = {BowlState.UNKNOWN, BowlState.OUTSIDE, BowlState.STATE, BowlState.FULL, BowlState.NONE};
        for (int i = 0; i < names.length; i++) {
            DUE.holds("README tells " + names[i], readme.contains("| `" + names[i] + "` | " + values[i] + " |"));
        }
    }

    private static void tests(String readme) throws IOException {
        DUE.holds("README tells how tests are run", readme.contains("bash .ci/run"));
        try (Stream<Path> files = Files.list(Path.of("src/test/java"))) {
            for (Path file : files.toList()) {
                String name = file.getFileName().toString().replace(".java", "");
                DUE.holds("README names " + name, readme.contains("`" + name + "`"));
            }
        }
    }
}
