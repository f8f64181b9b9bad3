/** The edges of what is read of bowls, fish and lips: promises 6 to 8, and what a fish knows and how long. */
public final class HallEdgesTest {
    private final Edges edges;

    HallEdgesTest(Edges edges) {
        this.edges = edges;
    }

    public static void main(String[] args) {
        Edges edges = new Edges();
        new HallEdgesTest(edges).all();
        edges.end();
    }

    void all() {
        hoursOfBowl();
        fishInBowl();
        lipsAtBowl();
        bowlUnknown();
        bowlOutside();
        readingsOfFish();
        fishKnowsNothing();
        fishUnknown();
        fishOutside();
        readingsOfLip();
        lipUnknown();
        lipOutside();
        secretOrNothing();
        lastsByKind();
        leftOfWhatItKnows();
        oldOnesNeverForget();
    }

    private void hoursOfBowl() {
        edges.promise(6, "how many HOURS it takes (what = 0)");
        BowlState x = Due.of("GB1B9B5");
        edges.is("the least", x.bowl(0, 0), 1);
        edges.is("the most", x.bowl(1, 0), 9);
        edges.is("the last bowl", x.bowl(2, 0), 5);
    }

    private void fishInBowl() {
        edges.promise(6, "FISH in it (1: bits)");
        BowlState x = Due.of("GB1B1B1F000F210F020F230F040");
        edges.is("full", x.bowl(0, 1), 21);
        edges.is("empty", x.bowl(1, 1), 0);
        edges.is("two", x.bowl(2, 1), 10);
        x.move(4, 1);
        edges.is("the last fish", x.bowl(1, 1), 16);
        x.water(1);
        edges.is("one that knows nothing is there, too", x.bowl(1, 1), 16);
        edges.is("not full any more", x.bowl(0, 1), 5);
    }

    private void lipsAtBowl() {
        edges.promise(6, "LIPS that would be there in the next HOUR (2: bits; on DUTY or not)");
        BowlState x = Due.of("GB1B1B1B1B1L40L40L40L40");
        edges.is("all", x.bowl(4, 2), 15);
        edges.is("none", x.bowl(0, 2), 0);
        x.duty(0);
        x.duty(3);
        edges.is("ill ones, too", x.bowl(4, 2), 15);
        x.hour();
        edges.is("behind the last comes the first", x.bowl(0, 2), 15);
        edges.is("they are gone", x.bowl(4, 2), 0);
        for (int hour = 2; hour <= 11; hour++) {
            x.hour();
            edges.is("round at " + hour, x.bowl((4 + hour) % 5, 2), 15);
            edges.is("not yet at " + hour, x.bowl((5 + hour) % 5, 2), 0);
        }
        BowlState alone = Due.of("GB1L00");
        alone.hour();
        edges.is("of one bowl", alone.bowl(0, 2), 1);
    }

    private void bowlUnknown() {
        edges.promise(6, "UNKNOWN");
        edges.is("no bowls", new BowlState().bowl(0, 0), BowlState.UNKNOWN);
        String text = "G";
        for (int bowls = 1; bowls <= 5; bowls++) {
            text += "B1";
            BowlState x = Due.of(text);
            for (int what = 0; what <= 2; what++) {
                edges.holds("the last of " + bowls, x.bowl(bowls - 1, what) >= 0);
                edges.is("one behind it", x.bowl(bowls, what), BowlState.UNKNOWN);
                edges.is("-1", x.bowl(-1, what), BowlState.UNKNOWN);
            }
            for (int bowl : Edges.WILD) {
                edges.is("bowl " + bowl, x.bowl(bowl, 0), BowlState.UNKNOWN);
            }
        }
    }

    private void bowlOutside() {
        edges.promise(6, "OUTSIDE");
        BowlState x = Due.of("GB4F000L00");
        edges.is("what 0", x.bowl(0, 0), 4);
        edges.is("what 1", x.bowl(0, 1), 1);
        edges.is("what 2", x.bowl(0, 2), 1);
        edges.is("what 3", x.bowl(0, 3), BowlState.OUTSIDE);
        for (int what : Edges.WILD) {
            edges.is("what " + what, x.bowl(0, what), BowlState.OUTSIDE);
        }
    }

    private void readingsOfFish() {
        BowlState x = Due.of("GB1B9F100F091F142F193F053");
        x.tell(0, 5);
        x.hour();
        int[][] due = {{1, 0, 0, 5, 8, 9}, {0, 9, 1, 9, 1, 1}, {1, 4, 2, 4, 3, 4}, {1, 9, 3, 9, 9, 9},
            {0, 5, 3, 9, 1, 1}};
        String[] words = {"its BOWL (what = 0)", "FIRST secret (1)", "KIND (2)", "what it KNOWS (3; NONE: nothing)",
            "LEFT (4)", "how long it LASTS (5)"};
        for (int what = 0; what < words.length; what++) {
            edges.promise(7, words[what]);
            for (int fish = 0; fish < 5; fish++) {
                edges.is("fish(" + fish + ", " + what + ")", x.fish(fish, what), due[fish][what]);
            }
        }
    }

    private void fishKnowsNothing() {
        edges.promise(7, "what it KNOWS (3; NONE: nothing)");
        BowlState x = Due.of("GB9F000F090");
        edges.is("0 is something", x.fish(0, 3), 0);
        edges.is("9", x.fish(1, 3), 9);
        x.water(0);
        edges.is("nothing", x.fish(0, 3), BowlState.NONE);
        x.tell(0, 0);
        edges.is("0 again", x.fish(0, 3), 0);
        edges.promise(7, "LEFT (4)");
        edges.is("of nothing", x.fish(1, 4), 0);
        edges.is("the most", x.fish(0, 4), 9);
    }

    private void fishUnknown() {
        edges.promise(7, "UNKNOWN");
        edges.is("no fish", Due.of("GB1").fish(0, 0), BowlState.UNKNOWN);
        String text = "GB1B1";
        for (int fish = 1; fish <= 5; fish++) {
            text += "F" + fish % 2 + "00";
            BowlState x = Due.of(text);
            for (int what = 0; what <= 5; what++) {
                edges.holds("the last of " + fish, x.fish(fish - 1, what) >= 0);
                edges.is("one behind it", x.fish(fish, what), BowlState.UNKNOWN);
                edges.is("-1", x.fish(-1, what), BowlState.UNKNOWN);
            }
            for (int wild : Edges.WILD) {
                edges.is("fish " + wild, x.fish(wild, 0), BowlState.UNKNOWN);
            }
        }
    }

    private void fishOutside() {
        edges.promise(7, "OUTSIDE");
        BowlState x = Due.of("GB4F022");
        edges.is("what 0", x.fish(0, 0), 0);
        edges.is("what 5", x.fish(0, 5), 2);
        edges.is("what 6", x.fish(0, 6), BowlState.OUTSIDE);
        for (int what : Edges.WILD) {
            edges.is("what " + what, x.fish(0, what), BowlState.OUTSIDE);
        }
    }

    private void readingsOfLip() {
        BowlState x = Due.of("GB1B1B1B1B1L00L43L21L02");
        x.hour();
        x.duty(3);
        int[][] due = {{0, 0, 1}, {4, 3, 1}, {2, 1, 1}, {0, 2, 0}};
        String[] words = {"the BOWL where it begins (what = 0)", "ERROR (1)", "1 if it is on DUTY (2)"};
        for (int what = 0; what < words.length; what++) {
            edges.promise(8, words[what]);
            for (int lip = 0; lip < 4; lip++) {
                edges.is("lip(" + lip + ", " + what + ")", x.lip(lip, what), due[lip][what]);
            }
        }
        edges.is("ill", x.lip(3, 2), 0);
        x.duty(3);
        edges.is("again on duty", x.lip(3, 2), 1);
    }

    private void lipUnknown() {
        edges.promise(8, "UNKNOWN");
        edges.is("no lips", Due.of("GB1").lip(0, 0), BowlState.UNKNOWN);
        String text = "GB1";
        for (int lips = 1; lips <= 4; lips++) {
            text += "L00";
            BowlState x = Due.of(text);
            for (int what = 0; what <= 2; what++) {
                edges.holds("the last of " + lips, x.lip(lips - 1, what) >= 0);
                edges.is("one behind it", x.lip(lips, what), BowlState.UNKNOWN);
                edges.is("-1", x.lip(-1, what), BowlState.UNKNOWN);
            }
            for (int wild : Edges.WILD) {
                edges.is("lip " + wild, x.lip(wild, 0), BowlState.UNKNOWN);
            }
        }
    }

    private void lipOutside() {
        edges.promise(8, "OUTSIDE");
        BowlState x = Due.of("GB4L03");
        edges.is("what 0", x.lip(0, 0), 0);
        edges.is("what 2", x.lip(0, 2), 1);
        edges.is("what 3", x.lip(0, 3), BowlState.OUTSIDE);
        for (int what : Edges.WILD) {
            edges.is("what " + what, x.lip(0, what), BowlState.OUTSIDE);
        }
    }

    private void secretOrNothing() {
        edges.terms("What a FISH KNOWS is a secret (0 to 9), or nothing.");
        for (int secret = 0; secret <= 9; secret++) {
            BowlState x = Due.of("GB1F0" + secret + "0");
            edges.is("knows " + secret, x.fish(0, 3), secret);
            edges.is("anything", x.count(5), 1);
            edges.is("its first", x.count(6), 1);
            x.water(0);
            edges.is("knows nothing", x.fish(0, 3), BowlState.NONE);
            edges.is("not anything", x.count(5), 0);
            edges.is("not its first", x.count(6), 0);
        }
    }

    private void lastsByKind() {
        int[] fry = {1, 1, 1, 2, 2, 3, 3, 4, 4};
        for (int hours = 1; hours <= 9; hours++) {
            BowlState x = Due.of("GB" + hours + "B" + hours + "F000F001F002F103");
            edges.terms("It LASTS as many HOURS as its BOWL takes");
            edges.is("plain of " + hours, x.fish(0, 5), hours);
            edges.is("old of " + hours, x.fish(1, 5), hours);
            edges.is("echo of " + hours, x.fish(3, 5), hours);
            edges.terms("(FRY: half of that, cut, 1 at least)");
            edges.is("fry of " + hours, x.fish(2, 5), fry[hours - 1]);
            edges.is("fry of " + hours + ", left", x.fish(2, 4), fry[hours - 1]);
        }
    }

    private void leftOfWhatItKnows() {
        edges.terms("of what it KNOWS so many are LEFT (nothing: 0)");
        BowlState x = Due.of("GB3F000");
        for (int left = 3; left >= 1; left--) {
            edges.fishHas("going on", x, 0, 0, left);
            x.hour();
        }
        edges.fishHas("nothing", x, 0, BowlState.NONE, 0);
        x.hour();
        edges.fishHas("nothing, an hour more", x, 0, BowlState.NONE, 0);
        x.tell(0, 9);
        edges.fishHas("told", x, 0, 9, 3);
        x.water(0);
        edges.fishHas("forgotten at once", x, 0, BowlState.NONE, 0);
        edges.is("it would last as long", x.fish(0, 5), 3);
    }

    private void oldOnesNeverForget() {
        edges.terms("an OLD one never forgets by HOURS (LEFT stays)");
        BowlState x = Due.of("GB1B5F071F181");
        for (int hour = 0; hour < 40; hour++) {
            x.hour();
        }
        edges.fishHas("40 hours", x, 0, 7, 1);
        edges.fishHas("40 hours", x, 1, 8, 5);
        x.move(1, 0);
        x.move(1, 1);
        x.hour();
        edges.fishHas("an hour with less left", x, 1, 8, 1);
    }
}
