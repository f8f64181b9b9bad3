import java.util.ArrayList;
import java.util.List;

/**
 * All that can be seen of an object, in four looks, each of which uses it up: an object is good for 512 calls, and
 * what is in the row, in the slots or in the text is seen only by going back, on or over to it.
 */
enum Seen {
    NOW, ROW, SLOTS, TEXT;

    List<Long> of(BowlState x) {
        List<Long> seen = new ArrayList<>();
        switch (this) {
            case NOW -> now(x, seen);
            case ROW -> row(x, seen);
            case SLOTS -> slots(x, seen);
            default -> text(x, seen);
        }
        return seen;
    }

    private static void now(BowlState x, List<Long> seen) {
        for (int what = 0; what <= 9; what++) {
            seen.add((long) x.count(what));
        }
        for (int i = 0; i < 5; i++) {
            for (int what = 0; what <= 5; what++) {
                seen.add((long) x.fish(i, what));
            }
            for (int what = 0; what <= 2; what++) {
                seen.add((long) x.bowl(i, what));
                seen.add((long) x.lip(i, what));
            }
            seen.add((long) x.firsts(i));
        }
        seen.add(x.seed(0));
        seen.add((long) x.fault());
    }

    private static void moment(BowlState x, List<Long> seen) {
        seen.add((long) x.count(4));
        seen.add((long) x.count(7));
        for (int fish = 0; fish < 5; fish++) {
            seen.add((long) x.fish(fish, 0));
            seen.add((long) x.fish(fish, 3));
            seen.add((long) x.fish(fish, 4));
        }
    }

    private static void row(BowlState x, List<Long> seen) {
        for (int act = 0; act < 15; act++) {
            seen.add((long) x.undo());
            moment(x, seen);
        }
    }

    private static void slots(BowlState x, List<Long> seen) {
        for (int slot = 0; slot < 2; slot++) {
            seen.add((long) x.again(slot));
            moment(x, seen);
        }
    }

    /** What was said is seen best by a hall with a lip that makes no error. */
    private static void text(BowlState x, List<Long> seen) {
        seen.add((long) x.fault());
        seen.add((long) x.hall());
        now(x, seen);
        Due.write(x, "GB1B1F000F000F000F100F100L00");
        x.hall();
        now(x, seen);
        seen.add((long) x.unsay());
    }
}
