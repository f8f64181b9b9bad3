/** Promises 15 to 20: what is known ahead, lost, the crew, what is kept, the best bowl, doings judged. */
public final class KeptTest {
    private static final Due DUE = new Due();

    public static void main(String[] args) {
        ahead();
        lost();
        crew();
        fewestBeforeLeast();
        keeps();
        best();
        judgeKinds();
        judgeRows();
        judgeRefused();
        nothingChanges();
        DUE.end();
    }

    private static void ahead() {
        BowlState x = Due.of("GB3B1F050F160F171L02");
        int[] zero = {5, 5, 5, 5, 5, 5};
        int[] one = {6, BowlState.NONE, 8, BowlState.NONE, 8};
        for (int n = 0; n < one.length; n++) {
            DUE.is("ahead 0, " + n, x.ahead(0, n), zero[n]);
            DUE.is("ahead 1, " + n, x.ahead(1, n), one[n]);
            DUE.is("ahead 2, " + n, x.ahead(2, n), 7);
        }
        DUE.is("ahead 20", x.ahead(1, 20), 8);
        DUE.is("ahead 21", x.ahead(1, 21), BowlState.OUTSIDE);
        DUE.is("ahead -1", x.ahead(1, -1), BowlState.OUTSIDE);
        DUE.is("ahead of no fish", x.ahead(3, 21), BowlState.UNKNOWN);
        DUE.is("ahead of fish -1", x.ahead(-1, 0), BowlState.UNKNOWN);
    }

    private static void lost() {
        BowlState x = Due.of("GB9B4F050F160F172F141L00");
        DUE.is("never, a lip comes", x.lost(0), BowlState.NONE);
        DUE.is("never, a lip comes there, too", x.lost(1), BowlState.NONE);
        DUE.is("never, old", x.lost(3), BowlState.NONE);
        DUE.is("fry, a lip comes in time", x.lost(2), BowlState.NONE);
        x.duty(0);
        DUE.is("in 9 hours", x.lost(0), 9);
        DUE.is("in 4 hours", x.lost(1), 4);
        DUE.is("in 2 hours", x.lost(2), 2);
        x.water(1);
        DUE.is("now", x.lost(1), 0);
        DUE.is("old all the same", x.lost(3), BowlState.NONE);
        DUE.is("no fish", x.lost(4), BowlState.UNKNOWN);
        DUE.is("no fish -1", x.lost(-1), BowlState.UNKNOWN);
        farthest();
    }

    /** An echo hears a fish for 8 hours, and another echo hears it: 20 hours ahead are looked at, not more. */
    private static void farthest() {
        BowlState x = Due.of("GB9B9F050F063");
        DUE.is("heard to the end", x.lost(1), 17);
        x.tell(0, 5);
        DUE.is("the same", x.lost(1), 17);
        x = Due.of("GB9B1B1F050F013L10");
        x.duty(0);
        for (int n = 0; n <= 20; n++) {
            boolean knows = n < 17;
            DUE.is("ahead and lost agree at " + n, x.ahead(1, n) == BowlState.NONE ? 0 : 1, knows ? 1 : 0);
        }
    }

    private static void crew() {
        DUE.is("nobody needs any", new BowlState().crew(), 0);
        DUE.is("old ones need none", Due.of("GB1F001L00").crew(), 0);
        DUE.is("none is enough", Due.of("GB1F000").crew(), BowlState.NONE);
        DUE.is("both", Due.of("GB1B1F000F150L00L10").crew(), 3);
        DUE.is("one of two", Due.of("GB2B2F000F150L00L10").crew(), 1);
        DUE.is("three bowls of 2", Due.of("GB2B2B2F000F150F200L00").crew(), BowlState.NONE);
        DUE.is("errors do not matter", Due.of("GB1F000L03").crew(), 1);
        BowlState x = Due.of("GB1B1F000F150L00L10");
        x.duty(0);
        x.duty(1);
        DUE.is("ill ones may be of it", x.crew(), 3);
        DUE.is("they stay ill", x.count(7), 0);
        x = Due.of("GB1F000L00");
        x.water(0);
        DUE.is("what is known now does not matter", x.crew(), 1);
        x = Due.of("GB3B3B3F250L10L20L00");
        x.duty(0);
        x.duty(1);
        x.duty(2);
        x.hour();
        x.hour();
        DUE.is("the hour matters", x.crew(), 4);
    }

    private static void fewestBeforeLeast() {
        BowlState x = Due.of("GB9B9B9B9B2F450F460L00L20L10");
        x.move(0, 1);
        x.move(1, 2);
        DUE.is("one lip is fewer than two", x.crew(), 4);
        x = Due.of("GB9B9B9B9B2F450F460L00L20L00");
        x.move(0, 1);
        x.move(1, 2);
        DUE.is("of like ones the least", x.crew(), 3);
        x = Due.of("GB9B9B9B9B2F450F460L20L30L10L10");
        x.move(0, 1);
        x.move(1, 2);
        DUE.is("of like ones the least, again", x.crew(), 4);
    }

    private static void keeps() {
        BowlState x = Due.of("GB1B5F000F110L00");
        DUE.is("as it is", x.keeps(0, 0), 6);
        DUE.is("moved", x.keeps(0, 1), 11);
        DUE.is("as it is, there", x.keeps(1, 1), 12);
        DUE.is("moved here", x.keeps(1, 0), 6);
        x = Due.of("GB5B1F000F000F000F100");
        DUE.is("room set aside", x.keeps(3, 0), 0);
        DUE.is("5 hours", x.keeps(0, 0), 4);
        x.hour();
        DUE.is("what is left", x.keeps(0, 0), 3);
        DUE.is("it is cut", x.keeps(0, 1), 0);
        DUE.is("no fish", x.keeps(4, 0), BowlState.UNKNOWN);
        DUE.is("no fish -1", x.keeps(-1, 0), BowlState.UNKNOWN);
        DUE.is("no bowl", x.keeps(0, 2), BowlState.UNKNOWN);
        DUE.is("no bowl -1", x.keeps(0, -1), BowlState.UNKNOWN);
        x = Due.of("GB9B9F000F013F020F120");
        DUE.is("an echo hears", x.keeps(1, 0), 12);
        DUE.is("moved, it hears the other one", x.keeps(1, 1), 12);
        DUE.is("old", Due.of("GB1F001").keeps(0, 0), 12);
        DUE.is("kept of a fish not moved with others", x.keeps(0, 1), 8);
    }

    private static void best() {
        BowlState x = Due.of("GB1B5F000F110L00");
        DUE.is("the second", x.best(0), 1);
        DUE.is("where it is", x.best(1), 1);
        DUE.is("of like ones the least", Due.of("GB9B9B9F200").best(0), 0);
        DUE.is("nothing is kept anywhere", Due.of("GB1B1F100").best(0), 0);
        DUE.is("old ones anywhere", Due.of("GB1B9F101").best(0), 0);
        DUE.is("with another one", Due.of("GB9B9B9F000F123F210").best(1), 0);
        DUE.is("a longer one", Due.of("GB3B4B5B4F200").best(0), 2);
        DUE.is("no fish", x.best(2), BowlState.UNKNOWN);
        DUE.is("no fish -1", x.best(-1), BowlState.UNKNOWN);
    }

    private static void judgeKinds() {
        BowlState x = Due.of("GB1B3F000F000F000F150L00");
        int[] can = {0, 101, 111, 200, 201, 300, 309, 335, 400, 500, 510, 535};
        int[] canNot = {1, 10, 11, 100, 102, 130, 131, 141, 109, 202, 210, 211, 340, 349, 390, 401, 410, 409,
            501, 536, 540, 590, 600, 700, 800, 900, 999};
        for (int doing : can) {
            DUE.is("judge " + doing, x.judge(1, doing), BowlState.NONE);
        }
        for (int doing : canNot) {
            DUE.is("judge " + doing, x.judge(1, doing), 0);
        }
    }

    private static void judgeRows() {
        BowlState x = Due.of("GB1B3F080F171L13");
        // The lip is at bowl 1, then at bowl 0 (where it tells 8 and 3 more), then at bowl 1 again.
        DUE.is("an hour, and not known", x.judge(2, 508L), 1);
        DUE.is("two hours, and told with the error", x.judge(3, 501L), BowlState.NONE);
        DUE.is("not told its first", x.judge(3, 508L), 2);
        DUE.is("so, and then not so", x.judge(4, 501508L), 3);
        DUE.is("three hours, and forgotten", x.judge(4, 501L), 3);
        DUE.is("moved, and there", x.judge(2, 101101L), 1);
        DUE.is("moved, and back", x.judge(2, 101100L), BowlState.NONE);
        DUE.is("water of old ones", x.judge(2, 201517L), BowlState.NONE);
        DUE.is("water of others", x.judge(2, 200508L), 1);
        DUE.is("told, and known", x.judge(4, 304504314514L), BowlState.NONE);
        DUE.is("the last one", x.judge(4, 304504314515L), 3);
        DUE.is("duty, then no lip", x.judge(4, 400000000501L), 3);
        DUE.is("four hours", x.judge(4, 0L), BowlState.NONE);
        x = Due.of("GB1F080L03");
        DUE.is("told with the error", x.judge(2, 501L), BowlState.NONE);
        DUE.is("ill, not told", x.judge(3, 400000501L), 2);
        DUE.is("ill, then well", x.judge(4, 400400000501L), BowlState.NONE);
        x = Due.of("GB4B4F000F010F020F130F140");
        DUE.is("room for one", x.judge(2, 130140L), 0);
        DUE.is("room is made", x.judge(3, 101130140L), 2);
    }

    private static void judgeRefused() {
        BowlState x = Due.of("GB1F000");
        DUE.is("n 0", x.judge(0, 0), BowlState.OUTSIDE);
        DUE.is("n 5", x.judge(5, 0), BowlState.OUTSIDE);
        DUE.is("n -1", x.judge(-1, 0), BowlState.OUTSIDE);
        DUE.is("row -1", x.judge(1, -1), BowlState.OUTSIDE);
        DUE.is("row least", x.judge(4, Long.MIN_VALUE), BowlState.OUTSIDE);
        DUE.is("row greatest", x.judge(4, Long.MAX_VALUE), BowlState.OUTSIDE);
        long figures = 1;
        for (int n = 1; n <= 4; n++) {
            figures *= 1000;
            DUE.is("3 n figures", x.judge(n, figures - 1), 0);
            DUE.is("a figure more", x.judge(n, figures), BowlState.OUTSIDE);
        }
    }

    private static void nothingChanges() {
        BowlState x = Due.of("GB2B3F053F110F022L01L10");
        x.hour();
        x.ahead(0, 20);
        x.lost(1);
        x.crew();
        x.keeps(0, 1);
        x.best(1);
        x.judge(4, 101200305400L);
        DUE.is("hour", x.count(4), 1);
        DUE.is("acts", x.count(8), 1);
        DUE.is("duty", x.count(7), 3);
        DUE.is("place", x.fish(0, 0), 0);
        DUE.is("ahead still", x.ahead(0, 0), x.fish(0, 3));
        DUE.is("knowing", x.count(5), 7);
    }
}
