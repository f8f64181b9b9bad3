import java.util.ArrayList;
import java.util.LinkedHashMap;
import java.util.List;
import java.util.Map;

/**
 * What the tests of edges count with: each answer is looked at for one sentence of the document, whose words are
 * told ahead of it and must stand in the document as they are told.
 */
final class Edges {
    /** Numbers that are no number of anything, whatever there is; some would be one if they were cut or shifted. */
    static final int[] WILD = {Integer.MIN_VALUE, Integer.MIN_VALUE + 1, -65536, -256, -32, -9, -2, -1, 32, 64, 256,
        65536, 1 << 30, Integer.MAX_VALUE - 1, Integer.MAX_VALUE};

    private final Document document = new Document();
    private final Due due = new Due();
    private final Map<String, Integer> looked = new LinkedHashMap<>();
    private final Map<String, List<String>> told = new LinkedHashMap<>();
    private String sentence = "";

    /** What follows is looked at for these words of a promise. */
    void promise(int number, String words) {
        begin("Promise " + number, document.promise(number), words);
    }

    /** What follows is looked at for these words of the terms. */
    void terms(String words) {
        begin(Document.TERMS, document.section(Document.TERMS), words);
    }

    void beginning(String words) {
        begin(Document.BEGINNING, document.section(Document.BEGINNING), words);
    }

    private void begin(String where, String section, String words) {
        sentence = where + ", \"" + words + "\"";
        due.holds(sentence + " stands in the document", section.contains(words));
        looked.putIfAbsent(sentence, 0);
        told.computeIfAbsent(where, key -> new ArrayList<>()).add(words);
    }

    void is(String call, long got, long want) {
        looked.merge(sentence, 1, Integer::sum);
        due.is(sentence + ": " + call, got, want);
    }

    void holds(String what, boolean so) {
        is(what, so ? 1 : 0, 1);
    }

    /** A new text has that fault, and is a hall only if it has none. */
    void faultIs(String text, int place) {
        BowlState x = new BowlState();
        Due.write(x, text);
        is("fault of " + text, x.fault(), place);
        is("hall of " + text + " is refused", x.hall() == BowlState.STATE ? 1 : 0, place == BowlState.NONE ? 0 : 1);
    }

    void isHall(String text) {
        faultIs(text, BowlState.NONE);
    }

    /** What a fish knows, and what is left of it. */
    void fishHas(String when, BowlState x, int fish, int knows, int left) {
        is(when + ", fish " + fish + " knows", x.fish(fish, 3), knows);
        is(when + ", fish " + fish + " left", x.fish(fish, 4), left);
    }

    /** The words that were told of a section (or of "Promise" and its number). */
    List<String> toldOf(String where) {
        return told.getOrDefault(where, List.of());
    }

    void end() {
        for (Map.Entry<String, Integer> one : looked.entrySet()) {
            due.holds("something is looked at for " + one.getKey(), one.getValue() > 0);
        }
        due.end();
    }
}
