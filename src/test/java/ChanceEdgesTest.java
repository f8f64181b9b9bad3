import java.math.BigInteger;

/** The edges of shares, rests, illness by chance and decades by a seed; promises 24 to 28. */
public final class ChanceEdgesTest {
    private static final BigInteger TIMES = new BigInteger("6364136223846793005");
    private static final BigInteger MORE = new BigInteger("1442695040888963407");
    private static final BigInteger WRAP = BigInteger.TWO.pow(64);
    private static final String FIVE_AND_FOUR = "GB1B1B1B1B1F000F110F220F330F440L00L10L20L30";

    private final Edges edges;

    ChanceEdgesTest(Edges edges) {
        this.edges = edges;
    }

    public static void main(String[] args) {
        Edges edges = new Edges();
        new ChanceEdgesTest(edges).all();
        edges.end();
    }

    void all() {
        fractions();
        fractionsRefused();
        shareBehindTwelve();
        shareInEachOrder();
        shareOfIllOnes();
        shareUnknown();
        restsRoomSetAside();
        restsBehindTwelve();
        restsTwoMore();
        restsNeitherHasMore();
        restsHowMany();
        restsNone();
        restsAnswers();
        restsUnknown();
        restsOutsideOne();
        restsOutsideWhat();
        illHours();
        illTenths();
        illUnknown();
        illOutsideN();
        illOutsideX();
        seedAnswer();
        seedAtFirst();
        decadesTimes();
        decadesWrap();
        decadesUpperBits();
        decadesWater();
        decadesDuty();
        decadesHour();
        decadesTogether();
        decadesOutside();
    }

    // ---- fractions

    private void shareIs(String what, BowlState x, int lip, int above, int below) {
        edges.is(what + ", above", x.share(lip, true), above);
        edges.is(what + ", below", x.share(lip, false), below);
    }

    private void illIs(String what, BowlState x, int n, int tenths, int above, int below) {
        edges.is(what + ", above", x.ill(0, n, tenths, true), above);
        edges.is(what + ", below", x.ill(0, n, tenths, false), below);
    }

    private void fractions() {
        edges.terms("FRACTIONS are told above (upper = true; below 0, if they are), below (1 and more), "
            + "in least terms");
        shareIs("nothing", Due.of("GB1L00"), 0, 0, 1);
        shareIs("one", Due.of("GB1F000L00"), 0, 1, 1);
        shareIs("five", Due.of("GB9B9F000F000F000F100F100L00"), 0, 5, 1);
        shareIs("a half", Due.of("GB1F000L00L00"), 1, 1, 2);
        shareIs("two of two", Due.of("GB1F000F000L00L00"), 1, 1, 1);
        shareIs("three of two", Due.of("GB1F000F000F000L00L00"), 1, 3, 2);
        shareIs("a fourth", Due.of("GB1F000L00L00L00L00"), 3, 1, 4);
        shareIs("two of four", Due.of("GB1F000F000L00L00L00L00"), 3, 1, 2);
        illIs("never", Due.of("GB1F000L00"), 1, 10, 0, 1);
        illIs("always", Due.of("GB1F000L00"), 1, 0, 1, 1);
        illIs("the most below", Due.of("GB1F000L00L00L00L00"), 1, 1, 9999, 10000);
        illIs("5 tenths of four", Due.of("GB1F000L00L00L00L00"), 1, 5, 15, 16);
        illIs("the most below, 1 above", Due.of("GB1F000L01L01L01L00"), 1, 9, 729, 10000);
    }

    private void fractionsRefused() {
        edges.terms("refusals of them are told likewise");
        BowlState x = Due.of("GB1F000L00");
        shareIs("no lip", x, 1, BowlState.UNKNOWN, BowlState.UNKNOWN);
        illIs("n 21", x, 21, 0, BowlState.OUTSIDE, BowlState.OUTSIDE);
        illIs("x 11", x, 0, 11, BowlState.OUTSIDE, BowlState.OUTSIDE);
        illIs("no fish", new BowlState(), 0, 0, BowlState.UNKNOWN, BowlState.UNKNOWN);
    }

    // ---- shares

    private void shareBehindTwelve() {
        edges.terms("by how many in the mean FISH that KNOW anything behind 12 HOURS are more when it has come");
        String bowls = "GB1B1B1B1B1F000L";
        shareIs("told in the 11th", Due.of(bowls + "00"), 0, 0, 1);
        shareIs("told in the 12th", Due.of(bowls + "40"), 0, 1, 1);
        shareIs("told in the 13th", Due.of(bowls + "30"), 0, 0, 1);
        shareIs("told in the 11th for 2", Due.of("GB2B1B1B1B1F000L00"), 0, 1, 1);
        shareIs("told in the 10th for 2", Due.of("GB2B1B1B1B1F000L10"), 0, 0, 1);
        shareIs("told in the 10th for 3", Due.of("GB3B1B1B1B1F000L10"), 0, 1, 1);
        shareIs("they know by themselves", Due.of("GB1F001F001F001L00"), 0, 0, 1);
    }

    private void shareInEachOrder() {
        edges.terms("SHARE of a LIP: if LIPS come one by one, in each order as likely (others are ill)");
        BowlState x = Due.of("GB1B1F000F110L10L00L00L00");
        shareIs("alone at one", x, 0, 1, 1);
        for (int lip = 1; lip < 4; lip++) {
            shareIs("one of three at the other", x, lip, 1, 3);
        }
        x = Due.of("GB2B1F000F010F110L10L00L00");
        shareIs("two fish by any of three", x, 0, 2, 3);
        shareIs("and one fish by two", x, 1, 7, 6);
        shareIs("and one fish by two", x, 2, 7, 6);
    }

    private void shareOfIllOnes() {
        edges.terms("(those that are ill now stay so)");
        BowlState x = Due.of("GB1F000F010L00L00L00");
        shareIs("of three", x, 2, 2, 3);
        x.duty(0);
        shareIs("an ill one", x, 0, 0, 1);
        shareIs("of two", x, 2, 1, 1);
        x.duty(1);
        shareIs("alone", x, 2, 2, 1);
        x.duty(2);
        shareIs("all are ill", x, 2, 0, 1);
    }

    private void shareUnknown() {
        edges.promise(24, "UNKNOWN.");
        BowlState x = Due.of("GB1F000L00L00");
        for (int wild : Edges.WILD) {
            shareIs("lip " + wild, x, wild, BowlState.UNKNOWN, BowlState.UNKNOWN);
        }
        shareIs("the last lip", x, 1, 1, 2);
        shareIs("one behind it", x, 2, BowlState.UNKNOWN, BowlState.UNKNOWN);
        shareIs("no lips", new BowlState(), 0, BowlState.UNKNOWN, BowlState.UNKNOWN);
    }

    // ---- rests

    private void restsAre(String what, BowlState x, int count, int first) {
        edges.is(what + ", how many", x.rests(0, 1, 0), count);
        edges.is(what + ", the first", x.rests(0, 1, 1), first);
    }

    private void restsRoomSetAside() {
        edges.terms("each is MOVED to a BOWL (room set aside; or stays)");
        restsAre("either into a full one", Due.of("GB9B1B9F200F200F000F000F000"), 2, 2);
        restsAre("the one into a full one, where it hears", Due.of("GB9B9F103F100F001F000F000"), 1, 1);
        restsAre("both stay", Due.of("GB9F000F000F000"), 1, 0);
    }

    private void restsBehindTwelve() {
        edges.terms("then 12 HOURS go by");
        restsAre("told as often in each of three", Due.of("GB1B1B1F000F000L00"), 6, 1);
        restsAre("told once more in two of five", Due.of("GB1B1B1B1B1F000F000L00"), 2, 1);
    }

    private void restsTwoMore() {
        edges.terms("and 2 more, if it is in a BOWL without the other one");
        restsAre("1 less is kept elsewhere", Due.of("GB5B4F000F000"), 2, 1);
        restsAre("2 less are kept elsewhere", Due.of("GB5B3F000F000"), 3, 0);
        restsAre("3 less are kept elsewhere", Due.of("GB5B2F000F000"), 1, 0);
        restsAre("others do not matter", Due.of("GB5B5F000F000F100F100"), 2, 1);
    }

    private void restsNeitherHasMore() {
        edges.terms("pairs in which neither has more by another BOWL alone");
        restsAre("as much is not more", Due.of("GB5B3F000F000"), 3, 0);
        restsAre("one bowl", Due.of("GB1F000F000"), 1, 0);
        restsAre("neither by the one nor by the other", Due.of("GB5B3B3F000F100"), 4, 1);
    }

    private void restsHowMany() {
        edges.terms("how many; the first (10 times the one and the other)");
        restsAre("of five all but the like ones", Due.of("GB9B9B9B9B9F000F000"), 20, 1);
        restsAre("the last pair alone", Due.of("GB1B1B1B1B9F400F400"), 1, 44);
        restsAre("the first pair alone", Due.of("GB9B1B1B1B1F000F000"), 1, 0);
        BowlState x = Due.of("GB4B1B9B9B9F000F201");
        edges.is("the one has nothing in bowl 1", x.rests(0, 1, 1), 1);
        edges.is("told the other way round", x.rests(1, 0, 1), 2);
    }

    private void restsNone() {
        edges.terms("(10 times the one and the other); NONE.");
        restsAre("one goes after the other", Due.of("GB9B9F051F063"), 0, BowlState.NONE);
        restsAre("one goes after the other, of five", Due.of("GB9B9B9B9B9F051F063"), 0, BowlState.NONE);
        restsAre("in one bowl it has it", Due.of("GB9F051F063"), 1, 0);
    }

    private void restsAnswers() {
        edges.promise(25, "RESTS: how many (what = 0), the first (1); NONE.");
        restsAre("two", Due.of("GB9B9F000F000"), 2, 1);
        restsAre("one", Due.of("GB9F000F000"), 1, 0);
        restsAre("none", Due.of("GB9B9B9F063F051"), 0, BowlState.NONE);
    }

    private void restsUnknown() {
        edges.promise(25, "UNKNOWN: both");
        BowlState x = Due.of("GB9F000F010");
        for (int wild : Edges.WILD) {
            edges.is("one " + wild, x.rests(wild, 0, 0), BowlState.UNKNOWN);
            edges.is("other " + wild, x.rests(0, wild, 1), BowlState.UNKNOWN);
            edges.is("both " + wild, x.rests(wild, wild, 0), BowlState.UNKNOWN);
        }
        edges.is("one behind the last", x.rests(2, 0, 0), BowlState.UNKNOWN);
        edges.is("other behind the last", x.rests(0, 2, 0), BowlState.UNKNOWN);
        edges.is("the last one", x.rests(1, 0, 0), 1);
        edges.is("no fish", new BowlState().rests(0, 1, 0), BowlState.UNKNOWN);
    }

    private void restsOutsideOne() {
        edges.promise(25, "OUTSIDE: both are one");
        BowlState x = Due.of("GB9F000F010F020");
        for (int one = 0; one < 3; one++) {
            for (int other = 0; other < 3; other++) {
                edges.is(one + " and " + other, x.rests(one, other, 0), one == other ? BowlState.OUTSIDE : 1);
            }
        }
        edges.is("a fish alone", Due.of("GB9F000").rests(0, 0, 0), BowlState.OUTSIDE);
    }

    private void restsOutsideWhat() {
        edges.promise(25, "what.");
        BowlState x = Due.of("GB9F000F010");
        for (int wild : Edges.WILD) {
            edges.is("what " + wild, x.rests(0, 1, wild), BowlState.OUTSIDE);
        }
        edges.is("what 0", x.rests(0, 1, 0), 1);
        edges.is("what 1", x.rests(0, 1, 1), 0);
        edges.is("what 2", x.rests(0, 1, 2), BowlState.OUTSIDE);
    }

    // ---- illness

    private void illHours() {
        edges.terms("ILL: each LIP that is on DUTY is ill for the next n HOURS (0 to 20)");
        BowlState x = Due.of("GB1B1F050L10");
        illIs("in 0 hours: now", x, 0, 3, 1, 1);
        for (int n = 1; n <= 20; n++) {
            illIs("in " + n, x, n, 3, n % 2 == 0 ? 7 : 0, n % 2 == 0 ? 10 : 1);
        }
        x.duty(0);
        illIs("it is ill now", x, 20, 0, 0, 1);
        x.tell(0, 6);
        illIs("it knows another one now", x, 0, 0, 0, 1);
        x.water(0);
        illIs("it knows nothing now", x, 0, 0, 0, 1);
    }

    private void illTenths() {
        edges.terms("by x tenths (0 to 10), by itself");
        BowlState x = Due.of("GB1F050L00L00");
        int[] above = {1, 99, 24, 91, 21, 3, 16, 51, 9, 19, 0};
        int[] below = {1, 100, 25, 100, 25, 4, 25, 100, 25, 100, 1};
        for (int tenths = 0; tenths <= 10; tenths++) {
            illIs(tenths + " tenths, each by itself", x, 1, tenths, above[tenths], below[tenths]);
        }
        illIs("11 tenths", x, 1, 11, BowlState.OUTSIDE, BowlState.OUTSIDE);
        illIs("-1 tenths", x, 1, -1, BowlState.OUTSIDE, BowlState.OUTSIDE);
        edges.terms("that a FISH KNOWS its FIRST secret then: a FRACTION.");
        illIs("told another one", Due.of("GB1F090L01"), 1, 0, 0, 1);
        illIs("0 told, its first", Due.of("GB1F000L00"), 1, 4, 3, 5);
        illIs("told the first by one, another one by the other", Due.of("GB1F090L01L00"), 1, 2, 4, 25);
    }

    private void illUnknown() {
        edges.promise(26, "UNKNOWN");
        BowlState x = Due.of("GB1F000F010L00");
        for (int wild : Edges.WILD) {
            edges.is("fish " + wild, x.ill(wild, 1, 5, true), BowlState.UNKNOWN);
            edges.is("fish " + wild, x.ill(wild, 1, 5, false), BowlState.UNKNOWN);
        }
        edges.is("the last fish", x.ill(1, 1, 5, false), 2);
        edges.is("one behind it", x.ill(2, 1, 5, false), BowlState.UNKNOWN);
        edges.is("no fish", new BowlState().ill(0, 0, 0, true), BowlState.UNKNOWN);
    }

    private void illOutsideN() {
        edges.promise(26, "OUTSIDE: n");
        BowlState x = Due.of("GB1F000L00");
        for (int wild : Edges.WILD) {
            illIs("n " + wild, x, wild, 5, BowlState.OUTSIDE, BowlState.OUTSIDE);
        }
        illIs("n 0", x, 0, 5, 1, 1);
        illIs("n 20", x, 20, 5, 1, 2);
        illIs("n 21", x, 21, 5, BowlState.OUTSIDE, BowlState.OUTSIDE);
    }

    private void illOutsideX() {
        edges.promise(26, "x.");
        BowlState x = Due.of("GB1F000L00");
        for (int wild : Edges.WILD) {
            illIs("x " + wild, x, 5, wild, BowlState.OUTSIDE, BowlState.OUTSIDE);
        }
        illIs("x 0", x, 5, 0, 1, 1);
        illIs("x 10", x, 5, 10, 0, 1);
        illIs("x 11", x, 5, 11, BowlState.OUTSIDE, BowlState.OUTSIDE);
    }

    // ---- the seed

    private static long after(long seed, int times) {
        BigInteger x = BigInteger.valueOf(seed);
        for (int time = 0; time < times; time++) {
            x = x.multiply(TIMES).add(MORE).mod(WRAP);
        }
        return x.longValue();
    }

    private static long drawn(long x) {
        return BigInteger.valueOf(x).mod(WRAP).shiftRight(33).mod(BigInteger.valueOf(24)).longValue();
    }

    /** The seed whose next one has these upper 31 bits, and these lower 33. */
    private static long seedAheadOf(long upper, long lower) {
        BigInteger next = BigInteger.valueOf(upper).shiftLeft(33).add(BigInteger.valueOf(lower));
        return next.subtract(MORE).multiply(TIMES.modInverse(WRAP)).mod(WRAP).longValue();
    }

    /** A seed by which that is drawn first, and an hour behind it. */
    private static long seedDrawing(long upper) {
        for (long lower = 0; lower < 1000; lower++) {
            long seed = seedAheadOf(upper, lower);
            if (drawn(after(seed, 2)) >= 9) {
                return seed;
            }
        }
        throw new IllegalStateException("no seed for " + upper);
    }

    private void seedAnswer() {
        edges.promise(27, "THE SEED is v: what it was.");
        BowlState x = new BowlState();
        long[] seeds = {1, -1, Long.MAX_VALUE, Long.MIN_VALUE, 1L << 32, 0, 0, 5};
        long was = 0;
        for (long seed : seeds) {
            edges.is("seed " + seed, x.seed(seed), was);
            was = seed;
        }
    }

    private void seedAtFirst() {
        edges.terms("x (THE SEED, a long; 0 at first)");
        edges.is("at first", new BowlState().seed(7), 0);
        BowlState x = new BowlState();
        x.decades(1);
        edges.is("once from 0", x.seed(0), 1442695040888963407L);
    }

    private void decadesTimes() {
        edges.terms("DECADES by THE SEED: m times (1 to 30)");
        for (int m = 1; m <= 30; m++) {
            BowlState x = Due.of("GB9F051F061");
            edges.is(m + " times two old ones", x.decades(m), 2 * m);
            edges.is("the seed behind " + m, x.seed(0), after(0, m));
        }
    }

    private void decadesWrap() {
        edges.terms("becomes x times 6364136223846793005 and 1442695040888963407 (64 bits, wrapping)");
        long[] seeds = {0, 1, 2, -1, -2, Long.MAX_VALUE, Long.MIN_VALUE, 1L << 62, 1L << 32, 0xffffffffL};
        for (long seed : seeds) {
            BowlState x = new BowlState();
            x.seed(seed);
            x.decades(1);
            edges.is("from " + seed, x.seed(seed), after(seed, 1));
            x.decades(30);
            edges.is("30 from " + seed, x.seed(0), after(seed, 30));
        }
    }

    /** Water leaves four, duty five, and an hour without lips none. */
    private static int knowersBy(long draw) {
        if (draw >= 9) {
            return 0;
        }
        return draw >= 5 ? 5 : 4;
    }

    private void decadesUpperBits() {
        edges.terms("its upper 31 bits by 24, what is left");
        BowlState x = Due.of(FIVE_AND_FOUR);
        for (int lip = 0; lip < 4; lip++) {
            x.duty(lip);
        }
        long[] lowers = {0, 1, (1L << 33) - 1};
        long[] bases = {0, 24, (1L << 30) - 12, (1L << 31) - 24};
        for (long base : bases) {
            for (long upper = base; upper < base + 24; upper++) {
                long lower = lowers[(int) (upper % 3)];
                x.seed(seedAheadOf(upper, lower));
                edges.is("upper bits " + upper, x.decades(1), knowersBy(upper % 24));
            }
        }
    }

    private void decadesWater() {
        edges.terms("0 to 4 WATER of that BOWL is changed");
        for (int bowls = 1; bowls <= 5; bowls++) {
            for (int bowl = 0; bowl < bowls; bowl++) {
                BowlState x = Due.of("G" + "B9".repeat(bowls) + "F" + bowl + "50");
                for (int draw = 0; draw <= 5; draw++) {
                    x.seed(seedAheadOf(draw, 0));
                    edges.is("of " + bowls + ", fish in " + bowl + ", draw " + draw, x.decades(1),
                        draw == bowl ? 0 : 1);
                }
            }
        }
    }

    private void decadesDuty() {
        edges.terms("5 to 8 DUTY of that less 5 LIP, if there is such a one");
        for (int lips = 0; lips <= 4; lips++) {
            for (int bowl = 0; bowl < 5; bowl++) {
                BowlState x = Due.of("GB1B1B1B1B1F" + bowl + "50" + "L00L10L20L30".substring(0, 3 * lips));
                for (int lip = 0; lip < lips; lip++) {
                    x.duty(lip);
                }
                for (int draw = 5; draw <= 8; draw++) {
                    x.seed(seedDrawing(draw));
                    boolean told = draw - 5 == bowl && draw - 5 < lips;
                    edges.is(lips + " lips, fish in " + bowl + ", draw " + draw, x.decades(2), told ? 2 : 1);
                }
            }
        }
    }

    private void decadesHour() {
        edges.terms("9 and more AN HOUR");
        BowlState x = Due.of("GB1F050L00");
        x.tell(0, 6);
        for (int draw = 0; draw <= 23; draw++) {
            x.seed(seedAheadOf(draw, 0));
            edges.is("told again by draw " + draw, x.decades(1), draw >= 9 ? 1 : 0);
        }
    }

    private void decadesTogether() {
        edges.terms("how many FISH KNOW their FIRST secret, each time, together. (Nothing changes but THE SEED.)");
        BowlState x = Due.of("GB9F051F061F071");
        x.tell(0, 6);
        edges.is("two of three, 30 times", x.decades(30), 60);
        edges.is("all, 30 times", Due.of("GB9B9F001F011F021F131F141").decades(30), 150);
        edges.is("without fish", Due.of("GB9L00").decades(30), 0);
        edges.is("of nobody", new BowlState().decades(30), 0);
        BowlState y = Due.of("GB1F050");
        y.seed(seedDrawing(8));
        edges.is("no such lip, counted all the same; then lost", y.decades(2), 1);
        edges.is("it knows its first still", y.count(6), 1);
        edges.is("no hour went by", y.count(4), 0);
        edges.is("no act", y.count(8), 0);
    }

    private void decadesOutside() {
        edges.promise(28, "OUTSIDE: m.");
        BowlState x = Due.of("GB1F051");
        x.seed(3);
        for (int wild : Edges.WILD) {
            edges.is("m " + wild, x.decades(wild), BowlState.OUTSIDE);
        }
        edges.is("m 0", x.decades(0), BowlState.OUTSIDE);
        edges.is("m 31", x.decades(31), BowlState.OUTSIDE);
        edges.is("the seed stays", x.seed(3), 3);
        edges.is("m 1", x.decades(1), 1);
        edges.is("m 30", x.decades(30), 30);
    }
}
