/** The edges of what is kept: known ahead, lost, the crew, kept in a bowl, the best bowl, doings judged; 15 to 20. */
public final class KeptEdgesTest {
    private final Edges edges;

    KeptEdgesTest(Edges edges) {
        this.edges = edges;
    }

    public static void main(String[] args) {
        Edges edges = new Edges();
        new KeptEdgesTest(edges).all();
        edges.end();
    }

    void all() {
        aheadHours();
        aheadAnswer();
        aheadUnknown();
        aheadOutside();
        lostHours();
        lostAnswer();
        lostUnknown();
        crewFewest();
        crewEachHour();
        crewAnswer();
        keptOfTwelve();
        keptRoomSetAside();
        keepsUnknown();
        bestOfLikeOnes();
        bestUnknown();
        judgedHowMany();
        judgedHours();
        judgedMoves();
        judgedWater();
        judgedTold();
        judgedDuty();
        judgedKnows();
        judgedOtherKinds();
        judgedFirst();
        judgeAnswer();
        judgeOutsideN();
        judgeOutsideRow();
    }

    /** Two bowls of 1 hour and a lip that goes between: the fish knows anything behind each second hour. */
    private static BowlState everySecondHour() {
        return Due.of("GB1B1F050L11");
    }

    private void aheadHours() {
        edges.terms("IN n HOURS (0 to 20): what a FISH KNOWS then (NONE: nothing).");
        BowlState x = everySecondHour();
        edges.is("in 0 hours: now", x.ahead(0, 0), 5);
        for (int n = 1; n <= 20; n++) {
            edges.is("in " + n, x.ahead(0, n), n % 2 == 0 ? 6 : BowlState.NONE);
        }
        BowlState y = everySecondHour();
        for (int hour = 0; hour < 20; hour++) {
            y.hour();
        }
        edges.is("20 hours went by", y.fish(0, 3), x.ahead(0, 20));
        y.hour();
        edges.is("21 are no more like it", y.fish(0, 3), BowlState.NONE);
        edges.is("from there 19 are", y.ahead(0, 19), 6);
        edges.is("0 is a secret", Due.of("GB1F001").ahead(0, 20), 0);
    }

    private void aheadAnswer() {
        edges.promise(15, "IN n HOURS; NONE.");
        BowlState x = Due.of("GB9F000");
        edges.is("in 0", x.ahead(0, 0), 0);
        edges.is("in 8, the last", x.ahead(0, 8), 0);
        edges.is("in 9, nothing", x.ahead(0, 9), BowlState.NONE);
        edges.is("in 20, nothing", x.ahead(0, 20), BowlState.NONE);
        x.water(0);
        edges.is("now, nothing", x.ahead(0, 0), BowlState.NONE);
    }

    private void aheadUnknown() {
        edges.promise(15, "UNKNOWN");
        BowlState x = Due.of("GB9F000F010");
        for (int wild : Edges.WILD) {
            edges.is("fish " + wild, x.ahead(wild, 0), BowlState.UNKNOWN);
        }
        edges.is("the last fish", x.ahead(1, 0), 1);
        edges.is("one behind it", x.ahead(2, 0), BowlState.UNKNOWN);
        edges.is("no fish", new BowlState().ahead(0, 0), BowlState.UNKNOWN);
    }

    private void aheadOutside() {
        edges.promise(15, "OUTSIDE: n");
        BowlState x = Due.of("GB9F041");
        for (int wild : Edges.WILD) {
            edges.is("n " + wild, x.ahead(0, wild), BowlState.OUTSIDE);
        }
        edges.is("n 0", x.ahead(0, 0), 4);
        edges.is("n 20", x.ahead(0, 20), 4);
        edges.is("n 21", x.ahead(0, 21), BowlState.OUTSIDE);
    }

    /** No run loses anything at first in more than 17 hours: heard at the 8th one, it lasts for 9 more. */
    private void lostHours() {
        edges.terms("LOST: in how many HOURS (1 to 20) a FISH KNOWS nothing at first; 0: now; NONE.");
        BowlState x = Due.of("GB9F050F063");
        for (int hour = 0; hour < 17; hour++) {
            edges.is("heard until then", x.lost(1), 17 - hour);
            edges.is("the other one", x.lost(0), Math.max(0, 9 - hour));
            x.hour();
        }
        edges.is("now", x.lost(1), 0);
        edges.is("at first, not later", Due.of("GB1B1B1F050L10").lost(0), 1);
        edges.is("at first: an hour later it is told", Due.of("GB1B1F050L10").lost(0), 1);
        edges.is("told behind the first hour, then lost", Due.of("GB1B1F050L00").lost(0), 2);
        edges.is("never, for 20 hours", Due.of("GB5B5B5B5B5F050L40").lost(0), BowlState.NONE);
        edges.is("lost between", Due.of("GB4B4B4B4B4F050L00").lost(0), 5);
    }

    private void lostAnswer() {
        edges.promise(16, "LOST; NONE.");
        for (int hours = 1; hours <= 9; hours++) {
            edges.is("in " + hours, Due.of("GB" + hours + "F050").lost(0), hours);
        }
        edges.is("old", Due.of("GB1F051").lost(0), BowlState.NONE);
        edges.is("told each hour", Due.of("GB1F050L03").lost(0), BowlState.NONE);
        BowlState x = Due.of("GB9F050L00");
        x.water(0);
        edges.is("now, though a lip comes", x.lost(0), 0);
    }

    private void lostUnknown() {
        edges.promise(16, "UNKNOWN.");
        BowlState x = Due.of("GB9F000F010");
        for (int wild : Edges.WILD) {
            edges.is("fish " + wild, x.lost(wild), BowlState.UNKNOWN);
        }
        edges.is("the last fish", x.lost(1), 9);
        edges.is("one behind it", x.lost(2), BowlState.UNKNOWN);
        edges.is("no fish", new BowlState().lost(0), BowlState.UNKNOWN);
    }

    private void crewFewest() {
        edges.terms("CREW: the fewest LIPS (bits; of like ones the least) by which, on DUTY they alone");
        edges.is("none", Due.of("GB1F001L00L00L00L00").crew(), 0);
        edges.is("the least of four", Due.of("GB1F000L00L00L00L00").crew(), 1);
        edges.is("all of four", Due.of("GB1B1B1B1F000F100F200F300L00L10L20L30").crew(), 15);
        edges.is("the last of four", lateFish("L00L20L30L10").crew(), 8);
        edges.is("one that is more in bits than two", lateFish("L00L20L10").crew(), 4);
        edges.is("two, the least of like ones", lateFish("L00L20L00").crew(), 3);
        BowlState x = Due.of("GB1F000L00L00");
        x.duty(0);
        edges.is("an ill one may be the least", x.crew(), 1);
    }

    /** Two fish of which 2 hours are left, in bowls 1 and 2 of five. */
    private static BowlState lateFish(String lips) {
        BowlState x = Due.of("GB9B9B9B9B2F450F460" + lips);
        x.move(0, 1);
        x.move(1, 2);
        return x;
    }

    /** By any lips, the first loss of all comes in 9 hours at most, so that no run tells 12 of them from 9. */
    private void crewEachHour() {
        edges.terms("behind each of the next 12 HOURS each FISH KNOWS anything; NONE.");
        edges.is("lost behind the 1st", Due.of("GB1B1F000L10").crew(), BowlState.NONE);
        edges.is("lost behind the 2nd", Due.of("GB1B1F000L00").crew(), BowlState.NONE);
        edges.is("lost behind the 9th", Due.of("GB9F000").crew(), BowlState.NONE);
        edges.is("lost behind the 8th", Due.of("GB4B4B4B4B4F000L20").crew(), BowlState.NONE);
        edges.is("one of five is lost", Due.of("GB9B9F001F001F001F101F100").crew(), BowlState.NONE);
        BowlState x = Due.of("GB1F000L00");
        x.water(0);
        edges.is("now is not looked at", x.crew(), 1);
    }

    private void crewAnswer() {
        edges.promise(17, "CREW, as bits; NONE.");
        edges.is("nobody", new BowlState().crew(), 0);
        edges.is("no fish", Due.of("GB1L00").crew(), 0);
        edges.is("no lips", Due.of("GB1F000").crew(), BowlState.NONE);
        edges.is("all lips do not do", Due.of("GB1B1F000F100L00").crew(), BowlState.NONE);
        edges.is("all lips do", Due.of("GB1B1F000F100L00L10").crew(), 3);
    }

    private void keptOfTwelve() {
        edges.terms("KEPT by a FISH in a BOWL: behind how many of the next 12 HOURS it KNOWS anything");
        String bowls = "GB1B1B1B1B1F000L";
        edges.is("behind the 1st, 6th, 11th", Due.of(bowls + "00").keeps(0, 0), 3);
        edges.is("behind the 2nd, 7th, 12th", Due.of(bowls + "40").keeps(0, 0), 3);
        edges.is("behind the 3rd, 8th, not the 13th", Due.of(bowls + "30").keeps(0, 0), 2);
        edges.is("none", Due.of("GB1F000").keeps(0, 0), 0);
        edges.is("the first alone", Due.of("GB2F000").keeps(0, 0), 1);
        edges.is("8", Due.of("GB9F000").keeps(0, 0), 8);
        edges.is("all", Due.of("GB1F001").keeps(0, 0), 12);
        edges.is("two of three", Due.of("GB2B2B2F000L10").keeps(0, 0), 8);
        BowlState x = Due.of("GB6F000F013");
        x.hour();
        edges.is("lost behind the 10th", x.keeps(1, 0), 9);
        x = Due.of("GB8F000F013");
        x.hour();
        x.hour();
        edges.is("lost behind the 13th", x.keeps(1, 0), 12);
        x.hour();
        edges.is("lost behind the 12th", x.keeps(1, 0), 11);
    }

    private void keptRoomSetAside() {
        edges.terms("if it was MOVED there (room set aside; as it is, if it is there)");
        BowlState x = Due.of("GB4B2F000F010F020F130");
        edges.is("3 are there", x.keeps(3, 0), 1);
        edges.is("where it is, full", x.keeps(0, 0), 3);
        edges.is("less is left there", x.keeps(0, 1), 1);
        edges.is("as it is", x.keeps(3, 1), 1);
        x.hour();
        edges.is("as it is, an hour later", x.keeps(0, 0), 2);
        edges.is("as it is, its last hour", x.keeps(3, 1), 0);
        edges.is("it is still there", x.fish(3, 0), 1);
        x = Due.of("GB9B9F003F010F020F130");
        edges.is("a fourth one is heard", x.keeps(0, 0), 12);
    }

    private void keepsUnknown() {
        edges.promise(18, "UNKNOWN: both.");
        BowlState x = Due.of("GB9B9F000F010");
        for (int wild : Edges.WILD) {
            edges.is("fish " + wild, x.keeps(wild, 0), BowlState.UNKNOWN);
            edges.is("bowl " + wild, x.keeps(0, wild), BowlState.UNKNOWN);
            edges.is("both " + wild, x.keeps(wild, wild), BowlState.UNKNOWN);
        }
        edges.is("the last of both", x.keeps(1, 1), 8);
        edges.is("a fish behind them", x.keeps(2, 1), BowlState.UNKNOWN);
        edges.is("a bowl behind them", x.keeps(1, 2), BowlState.UNKNOWN);
        edges.is("no fish", Due.of("GB1").keeps(0, 0), BowlState.UNKNOWN);
    }

    private void bestOfLikeOnes() {
        edges.terms("BEST for a FISH: the BOWL by which most is KEPT; of like ones the least.");
        edges.is("one bowl", Due.of("GB1F000").best(0), 0);
        edges.is("all alike", Due.of("GB9B9B9B9B9F400").best(0), 0);
        edges.is("all alike, nothing is kept", Due.of("GB1B1B1B1B1F400").best(0), 0);
        edges.is("the last one", Due.of("GB8B8B8B8B9F400").best(0), 4);
        edges.is("two alike, not the first", Due.of("GB1B9B8B9F300").best(0), 1);
        edges.is("in it is as it is", Due.of("GB9B1F100").best(0), 0);
        edges.is("a full one", Due.of("GB1B9F100F100F100F000").best(3), 0);
        edges.is("a full one, heard there", Due.of("GB9B9F100F101F100F003").best(3), 1);
    }

    private void bestUnknown() {
        edges.promise(19, "UNKNOWN.");
        BowlState x = Due.of("GB1B9F100F110");
        for (int wild : Edges.WILD) {
            edges.is("fish " + wild, x.best(wild), BowlState.UNKNOWN);
        }
        edges.is("the last fish", x.best(1), 1);
        edges.is("one behind it", x.best(2), BowlState.UNKNOWN);
        edges.is("no fish", new BowlState().best(0), BowlState.UNKNOWN);
    }

    private void judgedHowMany() {
        edges.terms("JUDGED: n doings (1 to 4), told as three figures each");
        BowlState x = new BowlState();
        for (int n = 1; n <= 4; n++) {
            edges.is(n + " hours", x.judge(n, 0), BowlState.NONE);
        }
        long first = 599;
        for (int n = 1; n <= 4; n++) {
            edges.is("the last of " + n, x.judge(n, 599), n - 1);
            edges.is("the first of " + n, x.judge(n, first), 0);
            first *= 1000;
        }
    }

    /** All second and third figures of a kind, and whether each can be. */
    private interface Can {
        boolean be(int second, int third);
    }

    private void judgedKind(BowlState x, int kind, Can can) {
        for (int second = 0; second <= 9; second++) {
            for (int third = 0; third <= 9; third++) {
                int doing = 100 * kind + 10 * second + third;
                edges.is("judge " + doing, x.judge(1, doing), can.be(second, third) ? BowlState.NONE : 0);
            }
        }
    }

    /** Bowls 0 to 2 (full, 1 in it, empty), fish 0 to 3, lips 0 and 1. */
    private static BowlState judged() {
        return Due.of("GB3B3B3F000F090F020F130L00L10");
    }

    private void judgedHours() {
        edges.terms("(0, 0, 0: AN HOUR");
        judgedKind(judged(), 0, (second, third) -> second == 0 && third == 0);
        BowlState x = Due.of("GB3F040");
        edges.is("known behind two hours", x.judge(3, 504), BowlState.NONE);
        edges.is("lost behind three", x.judge(4, 504), 3);
    }

    private void judgedMoves() {
        edges.terms("1, a FISH, a BOWL: MOVED");
        judgedKind(judged(), 1, (fish, bowl) -> fish < 3 && (bowl == 1 || bowl == 2) || fish == 3 && bowl == 2);
        BowlState x = judged();
        edges.is("it is there now", x.judge(2, 101101), 1);
        edges.is("3 are there now", x.judge(4, 101111121121L), 2);
        edges.is("room is made", x.judge(2, 101130), BowlState.NONE);
        edges.is("no room is made", x.judge(2, 132130), 1);
    }

    private void judgedWater() {
        edges.terms("2, 0, a BOWL: WATER");
        judgedKind(judged(), 2, (none, bowl) -> none == 0 && bowl < 3);
        edges.is("it knows nothing then", judged().judge(2, 200500), 1);
        edges.is("it knows that still", judged().judge(2, 202500), BowlState.NONE);
    }

    private void judgedTold() {
        edges.terms("3, a FISH, a secret: TOLD");
        judgedKind(judged(), 3, (fish, secret) -> fish < 4);
        edges.is("it knows that", judged().judge(2, 309509), BowlState.NONE);
        edges.is("it knows 0", judged().judge(2, 310510), BowlState.NONE);
        edges.is("it knows no more what it knew", judged().judge(2, 310519), 1);
    }

    private void judgedDuty() {
        edges.terms("4, 0, a LIP: DUTY");
        judgedKind(judged(), 4, (none, lip) -> none == 0 && lip < 2);
        BowlState x = Due.of("GB1F050L00L00");
        edges.is("told by the other one", x.judge(3, 400000505), BowlState.NONE);
        edges.is("told by none", x.judge(4, 400401000505L), 3);
        edges.is("on duty again", x.judge(4, 400400000505L), BowlState.NONE);
    }

    private void judgedKnows() {
        edges.terms("5, a FISH, a figure: it KNOWS that)");
        int[] firsts = {0, 9, 2, 3};
        judgedKind(judged(), 5, (fish, figure) -> fish < 4 && figure == firsts[fish]);
        BowlState x = judged();
        x.water(0);
        x.water(1);
        judgedKind(x, 5, (fish, figure) -> false);
    }

    private void judgedOtherKinds() {
        edges.terms("the place of the first that can not be (or is not so); NONE: none.");
        for (int kind = 6; kind <= 9; kind++) {
            judgedKind(judged(), kind, (second, third) -> false);
        }
        edges.is("none of four", judged().judge(4, 101200309509L), BowlState.NONE);
    }

    private void judgedFirst() {
        edges.terms("the place of the first that can not be (or is not so); NONE: none.");
        BowlState x = judged();
        long[] rows = {999000000000L, 999000000L, 999000L, 999L, 999999999999L, 999999999L, 999999L};
        int[] places = {0, 1, 2, 3, 0, 1, 2};
        for (int i = 0; i < rows.length; i++) {
            edges.is("can not be, " + rows[i], x.judge(4, rows[i]), places[i]);
        }
        long[] notSo = {501500500500L, 500501500500L, 500500501500L, 500500500501L, 500500500500L};
        for (int i = 0; i < notSo.length; i++) {
            edges.is("not so, " + notSo[i], x.judge(4, notSo[i]), i < 4 ? i : BowlState.NONE);
        }
    }

    private void judgeAnswer() {
        edges.promise(20, "JUDGED; NONE.");
        BowlState x = Due.of("GB9F050");
        edges.is("so", x.judge(1, 505), BowlState.NONE);
        edges.is("not so", x.judge(1, 504), 0);
        edges.is("an hour, then so", x.judge(2, 505), BowlState.NONE);
        edges.is("an hour, then not so", x.judge(2, 504), 1);
        edges.is("the last of four", x.judge(4, 504), 3);
    }

    private void judgeOutsideN() {
        edges.promise(20, "OUTSIDE: n");
        BowlState x = Due.of("GB9F050");
        for (int wild : Edges.WILD) {
            edges.is("n " + wild, x.judge(wild, 0), BowlState.OUTSIDE);
        }
        edges.is("n 0", x.judge(0, 0), BowlState.OUTSIDE);
        edges.is("n 1", x.judge(1, 0), BowlState.NONE);
        edges.is("n 4", x.judge(4, 0), BowlState.NONE);
        edges.is("n 5", x.judge(5, 0), BowlState.OUTSIDE);
        edges.is("n 6", x.judge(6, 0), BowlState.OUTSIDE);
    }

    private void judgeOutsideRow() {
        edges.promise(20, "row (0 or more, 3 n figures at most)");
        BowlState x = Due.of("GB9F050");
        long figures = 1;
        for (int n = 1; n <= 4; n++) {
            figures *= 1000;
            edges.is("0, " + n, x.judge(n, 0), BowlState.NONE);
            edges.is("-1, " + n, x.judge(n, -1), BowlState.OUTSIDE);
            edges.is("3 n figures, " + n, x.judge(n, figures - 1), 0);
            edges.is("one figure more, " + n, x.judge(n, figures), BowlState.OUTSIDE);
            edges.is("as many figures below 0, " + n, x.judge(n, 1 - figures), BowlState.OUTSIDE);
            edges.is("the least, " + n, x.judge(n, Long.MIN_VALUE), BowlState.OUTSIDE);
            edges.is("the greatest, " + n, x.judge(n, Long.MAX_VALUE), BowlState.OUTSIDE);
        }
        // Of 2 to the 39th, 549755813888, the lower 32 bits are 0.
        edges.is("12 figures for 3 doings", x.judge(3, 1L << 39), BowlState.OUTSIDE);
        edges.is("12 figures for 4 doings", x.judge(4, 1L << 39), 0);
    }
}
