import java.util.Objects;

/** What each test counts with: answers that are not the ones that are due are printed, and end the test with 1. */
final class Due {
    private int wrong;
    private int looked;

    void is(String call, long got, long want) {
        looked++;
        if (got != want) {
            wrong++;
            if (wrong <= 50) {
                System.out.println(call + " answered " + got + ", due is " + want);
            }
        }
    }

    void holds(String what, boolean so) {
        looked++;
        if (!so) {
            wrong++;
            if (wrong <= 50) {
                System.out.println("not so: " + what);
            }
        }
    }

    int wrong() {
        return wrong;
    }

    void end() {
        System.out.println(looked + " answers looked at, " + wrong + " not as due");
        if (wrong != 0 || looked == 0) {
            System.exit(1);
        }
    }

    /** Puts a text in place of the one that was there. */
    static void write(BowlState x, String text) {
        Objects.requireNonNull(text);
        x.wipe();
        for (int i = 0; i < text.length(); i++) {
            x.write(text.charAt(i));
        }
    }

    /** A new object whose hall is that text. */
    static BowlState of(String text) {
        BowlState x = new BowlState();
        write(x, text);
        if (x.hall() < 0) {
            throw new IllegalStateException("no hall: " + text);
        }
        return x;
    }
}
