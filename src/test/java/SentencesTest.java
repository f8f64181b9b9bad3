import java.util.BitSet;
import java.util.List;
import java.util.regex.Matcher;
import java.util.regex.Pattern;

/**
 * That no edge of the document is without a test: all tests of edges are run, and each number, each refusal and
 * each such word as "at most" or "nothing" must stand in words that one of them was looked at for.
 */
public final class SentencesTest {
    private static final Pattern EDGE = Pattern.compile("\\d+|\\b(UNKNOWN|OUTSIDE|STATE|FULL|NONE|none|nothing|Nothing"
        + "|nobody|at most|at least|at first|empty|gone|room|wrapping|fewest|fewer|or more|alone|of like ones)\\b");
    private static final Pattern MARKS = Pattern.compile("==== \\d|`[^`]*`");

    public static void main(String[] args) {
        Edges edges = new Edges();
        new TextEdgesTest(edges).all();
        new HallEdgesTest(edges).all();
        new ActEdgesTest(edges).all();
        new KeptEdgesTest(edges).all();
        new WasEdgesTest(edges).all();
        new ChanceEdgesTest(edges).all();
        new SlotEdgesTest(edges).all();
        new RefusedEdgesTest(edges).all();
        Document document = new Document();
        Due due = new Due();
        String beginning = document.section(Document.BEGINNING);
        String calls = beginning.substring(beginning.indexOf("An object"));
        covered(due, Document.BEGINNING, calls, edges.toldOf(Document.BEGINNING));
        covered(due, Document.TERMS, document.section(Document.TERMS), edges.toldOf(Document.TERMS));
        for (int number = 1; number <= 31; number++) {
            String where = "Promise " + number;
            covered(due, where, document.promise(number), edges.toldOf(where));
        }
        edges.end();
        due.end();
    }

    private static void covered(Due due, String where, String section, List<String> told) {
        String words = MARKS.matcher(section).replaceAll(mark -> " ".repeat(mark.group().length()));
        BitSet in = new BitSet();
        for (String sentence : told) {
            for (int at = section.indexOf(sentence); at >= 0; at = section.indexOf(sentence, at + 1)) {
                in.set(at, at + sentence.length());
            }
        }
        Matcher edge = EDGE.matcher(words);
        while (edge.find()) {
            int from = Math.max(0, edge.start() - 30);
            int to = Math.min(words.length(), edge.end() + 30);
            due.holds(where + ": there is a test for \"" + words.substring(from, to).trim() + "\"",
                in.get(edge.start()) && in.get(edge.end() - 1));
        }
    }
}
