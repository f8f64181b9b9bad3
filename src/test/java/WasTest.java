/** Promises 21 to 23: what a fish said, and what its first secret may have been. */
public final class WasTest {
    private static final Due DUE = new Due();

    public static void main(String[] args) {
        say();
        firsts();
        anotherHall();
        DUE.end();
    }

    private static void say() {
        BowlState x = Due.of("GB1F000F010L00");
        DUE.is("v 10", x.say(0, 10), BowlState.OUTSIDE);
        DUE.is("v -1", x.say(0, -1), BowlState.OUTSIDE);
        DUE.is("no fish", x.say(2, 10), BowlState.UNKNOWN);
        DUE.is("no fish -1", x.say(-1, 0), BowlState.UNKNOWN);
        for (int said = 1; said <= 6; said++) {
            DUE.is("say " + said, x.say(said % 2, said), said);
            DUE.is("count", x.count(9), said);
        }
        DUE.is("say 7", x.say(0, 0), BowlState.FULL);
        DUE.is("outside comes ahead of full", x.say(0, 10), BowlState.OUTSIDE);
        DUE.is("unknown comes ahead of full", x.say(2, 0), BowlState.UNKNOWN);
        DUE.is("no act", x.count(8), 0);
        DUE.is("unsay", x.unsay(), 6);
        DUE.is("unsay again", x.unsay(), 0);
        DUE.is("count", x.count(9), 0);
        DUE.is("say anew", x.say(0, 0), 1);
    }

    private static void firsts() {
        BowlState x = Due.of("GB1B1F050F160L00L03");
        DUE.is("nothing said", x.firsts(0), 1023);
        x.say(0, 5);
        DUE.is("by 0 or by 3", x.firsts(0), 1 << 5 | 1 << 2);
        DUE.is("the other one said nothing", x.firsts(1), 1023);
        x.say(0, 2);
        DUE.is("each by some lip", x.firsts(0), 1 << 2);
        x.say(1, 1);
        DUE.is("by 10", x.firsts(1), 1 << 1 | 1 << 8);
        x.say(1, 1);
        DUE.is("the same again", x.firsts(1), 1 << 1 | 1 << 8);
        x.duty(0);
        DUE.is("ill ones told it, too", x.firsts(1), 1 << 1 | 1 << 8);
        x.say(0, 9);
        DUE.is("it can not be", x.firsts(0), 0);
        DUE.is("no fish", x.firsts(2), BowlState.UNKNOWN);
        DUE.is("no fish -1", x.firsts(-1), BowlState.UNKNOWN);
        x.unsay();
        DUE.is("nothing is said", x.firsts(0), 1023);
        x = Due.of("GB1F050");
        DUE.is("nothing said, no lips", x.firsts(0), 1023);
        x.say(0, 5);
        DUE.is("no lip can have told it", x.firsts(0), 0);
    }

    private static void anotherHall() {
        BowlState x = Due.of("GB1F050F060L01");
        x.say(1, 7);
        x.say(0, 0);
        Due.write(x, "GB1F050L02");
        x.hall();
        DUE.is("fewer fish, said", x.count(9), 2);
        DUE.is("the other lips", x.firsts(0), 1 << 8);
        DUE.is("not any more", x.firsts(1), BowlState.UNKNOWN);
        Due.write(x, "GB1F050F000L01");
        x.hall();
        DUE.is("there again", x.firsts(1), 1 << 6);
    }
}
