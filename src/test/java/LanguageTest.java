import java.nio.file.Files;
import java.nio.file.Path;
import java.util.Set;
import java.util.TreeSet;
import java.util.regex.Matcher;
import java.util.regex.Pattern;

/** What of ../shared/LANGUAGE.md can be seen in the words of the file; run where the project's root is. */
public final class LanguageTest {
    private static final Due DUE = new Due();

    public static void main(String[] args) throws Exception {
        String source = Files.readString(Path.of("src/main/java/BowlState.java"));
        String code = withoutComments(source);
        words(code);
        library(code);
        loops(code);
        lengths(code);
        DUE.holds("signs are 1 to 127", source.chars().allMatch(sign -> sign >= 1 && sign <= 127));
        DUE.holds("no package", !Pattern.compile("^\\s*package\\b", Pattern.MULTILINE).matcher(code).find());
        DUE.end();
    }

    private static String withoutComments(String source) {
        return source.replaceAll("(?s)/\\*.*?\\*/", "").replaceAll("//[^\n]*", "");
    }

    private static void words(String code) {
        String[] never = {"throw", "throws", "try", "catch", "finally", "synchronized", "assert", "import", "native",
            "volatile", "transient", "protected", "strictfp", "Object", "Exception", "double", "float", "Random",
            "Thread", "Runtime", "equals", "hashCode", "toString", "var"};
        for (String word : never) {
            DUE.holds("no " + word, !Pattern.compile("\\b" + word + "\\b").matcher(code).find());
        }
        DUE.holds("no lambda, no arrow", !code.contains("->"));
        DUE.holds("no method reference", !code.contains("::"));
        DUE.holds("no annotation", !code.contains("@"));
        DUE.holds("no Exact", !code.contains("Exact"));
        DUE.holds("no text", !code.contains("\""));
        DUE.holds("no initialiser block", !Pattern.compile("static\\s*\\{").matcher(code).find());
    }

    private static void library(String code) {
        Set<String> seen = new TreeSet<>();
        Matcher call = Pattern.compile("\\b([A-Z][a-z]\\w*)\\.(\\w+)").matcher(code);
        while (call.find()) {
            seen.add(call.group(1) + "." + call.group(2));
        }
        Set<String> may = Set.of("Integer.bitCount", "Math.min", "Math.max", "Math.abs", "Math.floorMod",
            "System.arraycopy");
        for (String one : seen) {
            DUE.holds(one + " is of the library that is left", may.contains(one));
        }
    }

    private static void loops(String code) {
        DUE.holds("every loop counts", !Pattern.compile("\\b(while|do)\\b").matcher(code).find());
        Matcher loop = Pattern.compile("for \\(int (\\w+) = [^;]*; ([^;]*); ([^{]*)\\) \\{").matcher(code);
        int counted = 0;
        while (loop.find()) {
            counted++;
            DUE.holds("bound in " + loop.group(), loop.group(2).startsWith(loop.group(1) + " <"));
            DUE.holds("step in " + loop.group(), loop.group(3).equals(loop.group(1) + "++"));
        }
        Matcher all = Pattern.compile("\\bfor\\b").matcher(code);
        int loops = 0;
        while (all.find()) {
            loops++;
        }
        DUE.is("loops that count", counted, loops);
    }

    private static void lengths(String code) {
        String[] lines = code.split("\n");
        int from = -1;
        String indent = "";
        for (int at = 0; at < lines.length; at++) {
            Matcher head = Pattern.compile("^( +)[\\w\\[\\] ]+\\([^;]*\\) \\{$").matcher(lines[at]);
            boolean isHead = head.find() && !lines[at].matches("^ +(if|for|switch|else|\\}).*");
            if (isHead) {
                from = at;
                indent = head.group(1);
            }
            if (from >= 0 && lines[at].equals(indent + "}")) {
                DUE.holds("some sixty lines at most: " + lines[from].trim(), at - from < 60);
                from = -1;
            }
            DUE.holds("short lines: " + lines[at], lines[at].length() <= 120);
        }
    }
}
