import java.math.BigInteger;

/** Promises 24 to 28: shares of lips, two who want a bowl, illness by chance, decades by a seed. */
public final class ChancesTest {
    private static final Due DUE = new Due();

    public static void main(String[] args) {
        share();
        shareRefused();
        rests();
        restsRefused();
        ill();
        illRefused();
        seed();
        decades();
        DUE.end();
    }

    private static void shareIs(String what, BowlState x, int lip, int above, int below) {
        DUE.is(what + ", above", x.share(lip, true), above);
        DUE.is(what + ", below", x.share(lip, false), below);
    }

    private static void share() {
        BowlState x = Due.of("GB2F050L00L00");
        shareIs("one of two", x, 0, 1, 2);
        shareIs("the other of two", x, 1, 1, 2);
        x.duty(0);
        shareIs("an ill one", x, 0, 0, 1);
        shareIs("one alone", x, 1, 1, 1);
        x = Due.of("GB2F050F060L00L00L01");
        shareIs("two fish, three lips", x, 2, 2, 3);
        x = Due.of("GB2F050F061L00L00L01L02");
        shareIs("old ones know by themselves", x, 3, 1, 4);
        shareIs("nobody knows more", Due.of("GB2F051L00"), 0, 0, 1);
        shareIs("no fish", Due.of("GB2L00"), 0, 0, 1);
        x = Due.of("GB1B1F050F160L00L10");
        shareIs("each its own", x, 0, 1, 1);
        shareIs("each its own", x, 1, 1, 1);
        uneven();
    }

    /** In the 12th hour the lips are at bowl 2, 0 and 0: lips 1 and 2 halve the two fish there. */
    private static void uneven() {
        BowlState x = Due.of("GB1B1B1F050F060F150L00L10L10");
        x.duty(2);
        shareIs("two by one", x, 1, 2, 1);
        shareIs("none", x, 0, 0, 1);
        x.duty(2);
        shareIs("halved", x, 1, 1, 1);
        shareIs("halved", x, 2, 1, 1);
        x = Due.of("GB1B1B1F050F060F050L00L10L10");
        shareIs("three halves", x, 1, 3, 2);
        DUE.is("acts", x.count(8), 0);
        DUE.is("hour", x.count(4), 0);
        DUE.is("duty", x.count(7), 7);
    }

    private static void shareRefused() {
        BowlState x = Due.of("GB2F050L00");
        shareIs("no lip", x, 1, BowlState.UNKNOWN, BowlState.UNKNOWN);
        shareIs("no lip -1", x, -1, BowlState.UNKNOWN, BowlState.UNKNOWN);
    }

    private static void restsAre(String what, String text, int count, int first) {
        BowlState x = Due.of(text);
        DUE.is(what + ", how many", x.rests(0, 1, 0), count);
        DUE.is(what + ", the first", x.rests(0, 1, 1), first);
        DUE.is(what + ", hour", x.count(4), 0);
        DUE.is(what + ", place", x.fish(0, 0), text.charAt(text.indexOf('F') + 1) - '0');
    }

    private static void rests() {
        restsAre("alone each", "GB9B9F000F100", 2, 1);
        restsAre("alone each, of three", "GB9B9B9F000F100", 6, 1);
        restsAre("one bowl", "GB9F000F000", 1, 0);
        restsAre("an echo after an old one", "GB9B9F051F063", 0, BowlState.NONE);
        restsAre("an old one and an echo", "GB9B9F053F061", 0, BowlState.NONE);
        restsAre("a bowl is better than being alone", "GB9B1F000F000", 1, 0);
        restsAre("both in the second", "GB1B9F100F110", 1, 11);
        restsAre("each where it was", "GB1B1B9F200F101", 2, 20);
        // Fish 1 keeps 3 anywhere, fish 0 keeps 8 in bowls 0 and 2: it has one of these, without the other one.
        BowlState x = Due.of("GB9B4B9F050F110F260");
        DUE.is("the second and the first", x.rests(1, 0, 0), 4);
        DUE.is("the second and the first, the first pair", x.rests(1, 0, 1), 2);
        DUE.is("the first and the second, the first pair", x.rests(0, 1, 1), 1);
        x = Due.of("GB9B4F000F010F110F120F130");
        DUE.is("room set aside", x.rests(2, 3, 1), 1);
        x = Due.of("GB9B3F000F010");
        DUE.is("3 in the other", x.rests(0, 1, 1), 0);
        DUE.is("3 in the other, how many", x.rests(0, 1, 0), 1);
    }

    private static void restsRefused() {
        BowlState x = Due.of("GB9F000F000");
        DUE.is("no one", x.rests(2, 0, 0), BowlState.UNKNOWN);
        DUE.is("no other", x.rests(0, 2, 0), BowlState.UNKNOWN);
        DUE.is("no one -1", x.rests(-1, 0, 0), BowlState.UNKNOWN);
        DUE.is("no other -1", x.rests(0, -1, 2), BowlState.UNKNOWN);
        DUE.is("both are none", x.rests(2, 2, 0), BowlState.UNKNOWN);
        DUE.is("both are one", x.rests(1, 1, 0), BowlState.OUTSIDE);
        DUE.is("what 2", x.rests(0, 1, 2), BowlState.OUTSIDE);
        DUE.is("what -1", x.rests(0, 1, -1), BowlState.OUTSIDE);
    }

    private static void illIs(String what, BowlState x, int[] call, int above, int below) {
        DUE.is(what + ", above", x.ill(call[0], call[1], call[2], true), above);
        DUE.is(what + ", below", x.ill(call[0], call[1], call[2], false), below);
    }

    private static int[] of(int fish, int n, int x) {
        return new int[] {fish, n, x};
    }

    private static void ill() {
        BowlState x = Due.of("GB1F050L00");
        illIs("3 tenths", x, of(0, 1, 3), 7, 10);
        illIs("5 tenths", x, of(0, 20, 5), 1, 2);
        illIs("never", x, of(0, 1, 0), 1, 1);
        illIs("always", x, of(0, 1, 10), 0, 1);
        illIs("now", x, of(0, 0, 10), 1, 1);
        x.tell(0, 6);
        illIs("now, another one", x, of(0, 0, 0), 0, 1);
        x = Due.of("GB1F050L01L00");
        illIs("the first ill, the other not", x, of(0, 1, 3), 21, 100);
        x.duty(0);
        illIs("the ill one stays ill", x, of(0, 1, 3), 7, 10);
        DUE.is("hour", x.count(4), 0);
        DUE.is("duty", x.count(7), 2);
        x = Due.of("GB1F050L00L00L00L00");
        illIs("not all", x, of(0, 1, 3), 9919, 10000);
        illIs("not all, in least terms", x, of(0, 1, 2), 624, 625);
        illIs("no lips", Due.of("GB2F050"), of(0, 1, 4), 1, 1);
        illIs("no lips, lost", Due.of("GB2F050"), of(0, 2, 4), 0, 1);
        illIs("old", Due.of("GB2F051L03"), of(0, 20, 4), 1, 1);
        illIs("on its round", Due.of("GB1B1F050L00"), of(0, 2, 3), 0, 1);
        illIs("on its round, again", Due.of("GB1B1F050L00"), of(0, 3, 3), 7, 10);
    }

    private static void illRefused() {
        BowlState x = Due.of("GB1F050L00");
        illIs("no fish", x, of(1, 21, 11), BowlState.UNKNOWN, BowlState.UNKNOWN);
        illIs("no fish -1", x, of(-1, 0, 0), BowlState.UNKNOWN, BowlState.UNKNOWN);
        illIs("n 21", x, of(0, 21, 0), BowlState.OUTSIDE, BowlState.OUTSIDE);
        illIs("n -1", x, of(0, -1, 0), BowlState.OUTSIDE, BowlState.OUTSIDE);
        illIs("x 11", x, of(0, 0, 11), BowlState.OUTSIDE, BowlState.OUTSIDE);
        illIs("x -1", x, of(0, 0, -1), BowlState.OUTSIDE, BowlState.OUTSIDE);
    }

    private static void seed() {
        BowlState x = new BowlState();
        DUE.is("seed", x.seed(5), 0);
        DUE.is("seed", x.seed(Long.MIN_VALUE), 5);
        DUE.is("seed", x.seed(Long.MAX_VALUE), Long.MIN_VALUE);
        DUE.is("seed", x.seed(-1), Long.MAX_VALUE);
        DUE.is("m 0", x.decades(0), BowlState.OUTSIDE);
        DUE.is("m 31", x.decades(31), BowlState.OUTSIDE);
        DUE.is("m -1", x.decades(-1), BowlState.OUTSIDE);
        DUE.is("refused, seed", x.seed(0), -1);
        x.decades(1);
        DUE.is("once from 0", x.seed(0), 1442695040888963407L);
        x.decades(2);
        DUE.is("twice from 0", x.seed(0), 1876011003808476466L);
        x.decades(1);
        x.decades(1);
        DUE.is("once and once", x.seed(0), 1876011003808476466L);
    }

    private static void decades() {
        BowlState x = Due.of("GB9B9B9B9B9F051F151F251F351F451");
        DUE.is("old ones know, each time", x.decades(30), 150);
        DUE.is("and once", x.decades(1), 5);
        DUE.is("no hour went by", x.count(4), 0);
        DUE.is("no act", x.count(8), 0);
        x = Due.of("GB1F050L00");
        firstDraws(x);
        for (int lip = 0; lip < 4; lip++) {
            dutyDrawn(lip);
        }
    }

    /** One lip alone is well, then it is drawn to be ill, and in an hour all is lost. */
    private static void dutyDrawn(int lip) {
        BowlState x = Due.of("GB1F050L00L00L00L00");
        for (int other = 0; other < 4; other++) {
            if (other != lip) {
                x.duty(other);
            }
        }
        x.seed(seedThatDraws(5 + lip));
        DUE.is("lip " + lip + " drawn, then an hour", x.decades(2), 1);
        DUE.is("it is well all the same", x.count(7), 1 << lip);
        x.duty(lip);
        x.seed(seedThatDraws(5 + lip));
        DUE.is("lip " + lip + " drawn to be well, then an hour", x.decades(2), 2);
    }

    /** A seed by which that is drawn first, and an hour behind it. */
    private static long seedThatDraws(int first) {
        for (long seed = 0; seed < 1000000; seed++) {
            long next = after(seed);
            if (drawn(next) == first && drawn(after(next)) >= 9) {
                return seed;
            }
        }
        throw new IllegalStateException("no seed draws " + first);
    }

    private static long after(long seed) {
        return BigInteger.valueOf(seed).multiply(new BigInteger("6364136223846793005"))
            .add(new BigInteger("1442695040888963407")).longValue();
    }

    private static int drawn(long seed) {
        return new BigInteger(Long.toUnsignedString(seed)).shiftRight(33).mod(BigInteger.valueOf(24)).intValue();
    }

    /** Seeds whose first draw is told: water of bowl 0, duty of lip 0, an hour, and such as there are not. */
    private static void firstDraws(BowlState x) {
        long[] seeds = seedsByDraw();
        for (int draw = 0; draw < 24; draw++) {
            x.seed(seeds[draw]);
            DUE.is("draw " + draw, x.decades(1), draw == 0 ? 0 : 1);
        }
        x.tell(0, 4);
        x.seed(seeds[9]);
        DUE.is("an hour: told again", x.decades(1), 1);
        x.seed(seeds[8]);
        DUE.is("no such lip: nothing happens", x.decades(1), 0);
        x.seed(seeds[4]);
        DUE.is("no such bowl: nothing happens", x.decades(1), 0);
        x.duty(0);
        x.tell(0, 5);
        x.seed(seeds[23]);
        DUE.is("an hour: lost", x.decades(1), 0);
        DUE.is("nothing changes", x.count(6), 1);
    }

    private static long[] seedsByDraw() {
        long[] seeds = new long[24];
        boolean[] found = new boolean[24];
        int missing = 24;
        for (long seed = 0; missing > 0; seed++) {
            int draw = drawn(after(seed));
            if (!found[draw]) {
                found[draw] = true;
                seeds[draw] = seed;
                missing--;
            }
        }
        return seeds;
    }
}
