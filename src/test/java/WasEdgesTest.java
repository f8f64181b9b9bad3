/** The edges of what was said, and of what the first secret may have been by it; promises 21 to 23. */
public final class WasEdgesTest {
    private static final int ANY = 1023;

    private final Edges edges;

    WasEdgesTest(Edges edges) {
        this.edges = edges;
    }

    public static void main(String[] args) {
        Edges edges = new Edges();
        new WasEdgesTest(edges).all();
        edges.end();
    }

    void all() {
        saidSecrets();
        saidSixAtMost();
        saidOfFishNotAnyMore();
        sayAnswer();
        sayUnknown();
        sayOutside();
        sayFull();
        unsayAnswer();
        firstsAsBits();
        firstsOfAllThatItSaid();
        firstsAnswer();
        firstsUnknown();
    }

    private void saidSecrets() {
        edges.terms("SAID: that a FISH that had known nothing, as some LIP had told it, said v (0 to 9)");
        for (int v = -2; v <= 11; v++) {
            BowlState x = Due.of("GB1F000L00");
            boolean taken = v >= 0 && v <= 9;
            edges.is("say " + v, x.say(0, v), taken ? 1 : BowlState.OUTSIDE);
            edges.is("it may be " + v, x.firsts(0), taken ? 1 << v : ANY);
            x.water(0);
            edges.is("said by one that knows nothing now", x.say(0, v), taken ? 2 : BowlState.OUTSIDE);
        }
    }

    private void saidSixAtMost() {
        edges.terms("6 such at most, none at first");
        BowlState x = Due.of("GB1F000F010L00");
        edges.is("none at first", x.count(9), 0);
        for (int said = 1; said <= 6; said++) {
            edges.is("say, the " + said + "th", x.say(said % 2, 4), said);
        }
        edges.is("the 7th", x.say(0, 3), BowlState.FULL);
        edges.is("six", x.count(9), 6);
        edges.is("the 7th was not said", x.firsts(0), 1 << 4);
        edges.is("nor by the other one", x.firsts(1), 1 << 4);
    }

    private void saidOfFishNotAnyMore() {
        edges.terms("(of FISH that there are not any more nothing is looked at)");
        BowlState x = Due.of("GB1B1F000F000F000F100F100L00");
        for (int said = 0; said < 5; said++) {
            x.say(4 - said, said);
        }
        x.say(4, 9);
        Due.write(x, "GB1F000L00");
        x.hall();
        edges.is("all are still said", x.count(9), 6);
        edges.is("there is one fish", x.firsts(0), 1 << 4);
        edges.is("another one is not any more", x.firsts(4), BowlState.UNKNOWN);
        edges.is("full all the same", x.say(0, 4), BowlState.FULL);
        Due.write(x, "G");
        x.hall();
        edges.is("there is none", x.firsts(0), BowlState.UNKNOWN);
        edges.is("all are still said", x.count(9), 6);
        edges.is("unsay", x.unsay(), 6);
    }

    private void sayAnswer() {
        edges.promise(21, "SAID: how many there are.");
        BowlState x = Due.of("GB1F000F010");
        edges.is("one", x.say(0, 0), 1);
        edges.is("the same again", x.say(0, 0), 2);
        edges.is("of another one", x.say(1, 9), 3);
        x.unsay();
        edges.is("one again", x.say(1, 9), 1);
        edges.is("no act", x.count(8), 0);
        edges.fishHas("nothing is told by it", x, 1, 1, 1);
    }

    private void sayUnknown() {
        edges.promise(21, "UNKNOWN");
        BowlState x = Due.of("GB1F000F010");
        for (int wild : Edges.WILD) {
            edges.is("fish " + wild, x.say(wild, 5), BowlState.UNKNOWN);
        }
        edges.is("one behind the last", x.say(2, 5), BowlState.UNKNOWN);
        edges.is("nothing is said", x.count(9), 0);
        edges.is("the last fish", x.say(1, 5), 1);
        edges.is("no fish", new BowlState().say(0, 0), BowlState.UNKNOWN);
    }

    private void sayOutside() {
        edges.promise(21, "OUTSIDE: v");
        BowlState x = Due.of("GB1F000");
        for (int wild : Edges.WILD) {
            edges.is("v " + wild, x.say(0, wild), BowlState.OUTSIDE);
        }
        edges.is("v 10", x.say(0, 10), BowlState.OUTSIDE);
        edges.is("nothing is said", x.count(9), 0);
        edges.is("v 0", x.say(0, 0), 1);
        edges.is("v 9", x.say(0, 9), 2);
    }

    private void sayFull() {
        edges.promise(21, "FULL: 6");
        BowlState x = Due.of("GB1F000L00");
        for (int said = 1; said <= 5; said++) {
            x.say(0, 7);
        }
        edges.is("the 6th", x.say(0, 7), 6);
        edges.is("the 7th", x.say(0, 7), BowlState.FULL);
        edges.is("the 8th", x.say(0, 8), BowlState.FULL);
        edges.is("what is said stays", x.firsts(0), 1 << 7);
        edges.is("six", x.unsay(), 6);
        edges.is("not full any more", x.say(0, 8), 1);
    }

    private void unsayAnswer() {
        edges.promise(22, "Nothing is SAID: how much there was.");
        BowlState x = Due.of("GB1F000L00");
        edges.is("nothing", x.unsay(), 0);
        x.say(0, 3);
        edges.is("one", x.unsay(), 1);
        edges.is("nothing any more", x.count(9), 0);
        edges.is("it may be any", x.firsts(0), ANY);
        edges.is("nothing again", x.unsay(), 0);
        for (int said = 0; said < 6; said++) {
            x.say(0, 3);
        }
        edges.is("six", x.unsay(), 6);
        edges.is("of nobody", new BowlState().unsay(), 0);
    }

    private void firstsAsBits() {
        edges.terms("FIRSTS of a FISH: what its FIRST secret may be (bits 0 to 9)");
        for (int error = 0; error <= 3; error++) {
            for (int v = 0; v <= 9; v++) {
                BowlState x = Due.of("GB1F000L0" + error);
                x.say(0, v);
                int first = v >= error ? v - error : v - error + 10;
                edges.is("said " + v + " by error " + error, x.firsts(0), 1 << first);
            }
        }
        BowlState x = Due.of("GB1F000L00L01L02L03");
        x.say(0, 2);
        edges.is("by 0 to 3: 2, 1, 0 and 9", x.firsts(0), 1 << 2 | 1 << 1 | 1 | 1 << 9);
    }

    private void firstsOfAllThatItSaid() {
        edges.terms("so that of all that it SAID each may come by some LIP");
        BowlState x = Due.of("GB1F000F000L00L03");
        edges.is("nothing is said: any", x.firsts(0), ANY);
        x.say(0, 1);
        edges.is("1 or 8", x.firsts(0), 1 << 1 | 1 << 8);
        x.say(0, 8);
        edges.is("8 alone", x.firsts(0), 1 << 8);
        x.say(0, 4);
        edges.is("none", x.firsts(0), 0);
        edges.is("of another one nothing is said", x.firsts(1), ANY);
        BowlState alone = Due.of("GB1F000");
        edges.is("no lips, nothing is said", alone.firsts(0), ANY);
        alone.say(0, 0);
        edges.is("no lips", alone.firsts(0), 0);
    }

    private void firstsAnswer() {
        edges.promise(23, "FIRSTS, as bits.");
        BowlState x = Due.of("GB1F050L00");
        edges.is("all ten", x.firsts(0), ANY);
        x.say(0, 9);
        edges.is("the last", x.firsts(0), 512);
        x.unsay();
        x.say(0, 0);
        edges.is("the first", x.firsts(0), 1);
        x.say(0, 1);
        edges.is("none", x.firsts(0), 0);
        edges.is("its first secret stays", x.fish(0, 1), 5);
    }

    private void firstsUnknown() {
        edges.promise(23, "UNKNOWN.");
        BowlState x = Due.of("GB1F000F010");
        for (int wild : Edges.WILD) {
            edges.is("fish " + wild, x.firsts(wild), BowlState.UNKNOWN);
        }
        edges.is("the last fish", x.firsts(1), ANY);
        edges.is("one behind it", x.firsts(2), BowlState.UNKNOWN);
        edges.is("no fish", new BowlState().firsts(0), BowlState.UNKNOWN);
    }
}
