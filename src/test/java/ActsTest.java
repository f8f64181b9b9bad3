/** Promises 9 to 14: hours, moved, the water changed, told, on duty or ill, all undone. */
public final class ActsTest {
    private static final Due DUE = new Due();

    public static void main(String[] args) {
        hourForgets();
        hourOfOldOnes();
        hourTells();
        hourGoesRound();
        hourOfEchoes();
        hourOfNothing();
        move();
        moveRefused();
        water();
        tell();
        duty();
        undo();
        undoOfEach();
        DUE.end();
    }

    private static void fishIs(String when, BowlState x, int fish, int knows, int left) {
        DUE.is(when + ", fish " + fish + " knows", x.fish(fish, 3), knows);
        DUE.is(when + ", fish " + fish + " left", x.fish(fish, 4), left);
    }

    private static void hourForgets() {
        BowlState x = Due.of("GB3B5F050F162");
        DUE.is("hour 1", x.hour(), 2);
        fishIs("hour 1", x, 0, 5, 2);
        fishIs("hour 1", x, 1, 6, 1);
        DUE.is("hour 2", x.hour(), 1);
        fishIs("hour 2", x, 0, 5, 1);
        fishIs("hour 2", x, 1, BowlState.NONE, 0);
        DUE.is("hour 3", x.hour(), 0);
        fishIs("hour 3", x, 0, BowlState.NONE, 0);
        DUE.is("hour 4", x.hour(), 0);
        fishIs("hour 4", x, 0, BowlState.NONE, 0);
        DUE.is("the hour", x.count(4), 4);
    }

    private static void hourOfOldOnes() {
        BowlState x = Due.of("GB3B9F151L00");
        for (int hour = 0; hour < 12; hour++) {
            DUE.is("old ones never forget", x.hour(), 1);
        }
        fishIs("old", x, 0, 5, 9);
        x.move(0, 0);
        fishIs("old, moved", x, 0, 5, 3);
        x.move(0, 1);
        fishIs("old, moved back", x, 0, 5, 3);
        DUE.is("the lip is at 0", x.bowl(0, 2), 1);
        x.hour();
        fishIs("old, left stays", x, 0, 5, 3);
        x.hour();
        fishIs("old, a lip came", x, 0, 5, 9);
    }

    private static void hourTells() {
        BowlState x = Due.of("GB1F080L03");
        DUE.is("told with the error", x.hour(), 1);
        fishIs("told", x, 0, 1, 1);
        x = Due.of("GB2F080L03");
        x.hour();
        fishIs("knowing already", x, 0, 8, 2);
        x.hour();
        fishIs("knowing already", x, 0, 8, 2);
        x = Due.of("GB1F000F050L01L02");
        x.hour();
        fishIs("the first lip tells", x, 0, 1, 1);
        fishIs("the first lip tells", x, 1, 6, 1);
        x.duty(0);
        x.hour();
        fishIs("the other lip tells", x, 0, 2, 1);
        fishIs("the other lip tells", x, 1, 7, 1);
        x.duty(1);
        DUE.is("nobody tells", x.hour(), 0);
    }

    private static void hourGoesRound() {
        BowlState x = Due.of("GB1B1B1F000F110F220L20");
        int[] bits = {4, 1, 2, 4, 1, 2};
        for (int hour = 0; hour < bits.length; hour++) {
            DUE.is("on its round", x.hour(), 1);
            DUE.is("on its round, bits at " + hour, x.count(5), bits[hour]);
        }
        x.duty(0);
        x.hour();
        x.duty(0);
        x.hour();
        DUE.is("ill hours are counted on its round", x.count(5), 1);
    }

    private static void hourOfEchoes() {
        BowlState x = Due.of("GB3F043F050");
        x.hour();
        fishIs("echo 1", x, 0, 5, 3);
        fishIs("echo 1", x, 1, 5, 2);
        x.hour();
        fishIs("echo 2", x, 0, 5, 3);
        DUE.is("echo 3", x.hour(), 1);
        fishIs("echo 3", x, 0, 5, 2);
        DUE.is("echo 4", x.hour(), 1);
        DUE.is("echo 5", x.hour(), 0);
        x = Due.of("GB3F013F070F080");
        x.hour();
        fishIs("the sum by 10", x, 0, 5, 3);
        x = Due.of("GB3B3F073F150");
        x.hour();
        fishIs("of another bowl nothing is heard", x, 0, 7, 2);
        x = Due.of("GB3F033F043F050");
        x.hour();
        fishIs("by number", x, 0, 9, 3);
        fishIs("by number", x, 1, 4, 3);
        x = Due.of("GB9F033F050F060");
        x.water(0);
        x.tell(1, 0);
        x.hour();
        fishIs("0 is known, too", x, 0, 0, 9);
        fishIs("nothing is not", x, 2, BowlState.NONE, 0);
        x = Due.of("GB4B4F051F003F113");
        x.water(0);
        x.hour();
        fishIs("an echo that knew nothing", x, 1, 5, 4);
    }

    private static void hourOfNothing() {
        BowlState x = new BowlState();
        DUE.is("an hour of nobody", x.hour(), 0);
        DUE.is("the hour", x.count(4), 1);
        DUE.is("it is an act", x.count(8), 1);
        x = Due.of("GB4L00");
        DUE.is("an hour without fish", x.hour(), 0);
    }

    private static void move() {
        BowlState x = Due.of("GB4B2F000F002F150");
        DUE.is("move", x.move(0, 1), 0);
        DUE.is("moved, bowl", x.fish(0, 0), 1);
        fishIs("moved", x, 0, 0, 2);
        DUE.is("move back", x.move(0, 0), 1);
        fishIs("moved back", x, 0, 0, 2);
        DUE.is("move of fry", x.move(1, 1), 0);
        fishIs("fry moved", x, 1, 0, 1);
        x.water(1);
        DUE.is("move of one that knows nothing", x.move(2, 0), 1);
        fishIs("knowing nothing", x, 2, BowlState.NONE, 0);
        DUE.is("acts", x.count(8), 5);
        DUE.is("no hour went by", x.count(4), 0);
    }

    private static void moveRefused() {
        BowlState x = Due.of("GB4B2F000F000F000F100");
        DUE.is("it is there", x.move(3, 1), BowlState.STATE);
        DUE.is("it is there, and 3 are", x.move(0, 0), BowlState.STATE);
        DUE.is("3 are", x.move(3, 0), BowlState.STATE);
        DUE.is("no bowl", x.move(0, 2), BowlState.UNKNOWN);
        DUE.is("no bowl -1", x.move(0, -1), BowlState.UNKNOWN);
        DUE.is("no fish", x.move(4, 0), BowlState.UNKNOWN);
        DUE.is("no fish -1", x.move(-1, 0), BowlState.UNKNOWN);
        DUE.is("refused, acts", x.count(8), 0);
        DUE.is("refused, bowl", x.fish(3, 0), 1);
        DUE.is("one goes", x.move(1, 1), 0);
        DUE.is("one comes", x.move(3, 0), 1);
        fishIs("one came", x, 3, 0, 2);
    }

    private static void water() {
        BowlState x = Due.of("GB4B2F000F011F022F130");
        DUE.is("water", x.water(0), 2);
        DUE.is("old ones know", x.count(5), 10);
        fishIs("old", x, 1, 1, 4);
        fishIs("plain", x, 0, BowlState.NONE, 0);
        fishIs("fry", x, 2, BowlState.NONE, 0);
        DUE.is("water again", x.water(0), 0);
        DUE.is("an act, too", x.count(8), 2);
        DUE.is("no bowl", x.water(2), BowlState.UNKNOWN);
        DUE.is("no bowl -1", x.water(-1), BowlState.UNKNOWN);
        DUE.is("refused, acts", x.count(8), 2);
        DUE.is("the other water", x.water(1), 1);
    }

    private static void tell() {
        BowlState x = Due.of("GB4F000F011F022");
        DUE.is("tell", x.tell(0, 9), 0);
        fishIs("told", x, 0, 9, 4);
        x.hour();
        DUE.is("tell old", x.tell(1, 7), 1);
        fishIs("told old", x, 1, 7, 4);
        DUE.is("tell it what it knows", x.tell(0, 9), 9);
        fishIs("told that", x, 0, 9, 4);
        x.hour();
        DUE.is("tell one that knew nothing", x.tell(2, 0), BowlState.NONE);
        fishIs("told fry", x, 2, 0, 2);
        DUE.is("first secrets", x.count(6), 0);
        DUE.is("secret 10", x.tell(0, 10), BowlState.OUTSIDE);
        DUE.is("secret -1", x.tell(0, -1), BowlState.OUTSIDE);
        DUE.is("no fish", x.tell(3, 10), BowlState.UNKNOWN);
        DUE.is("no fish -1", x.tell(-1, 0), BowlState.UNKNOWN);
        DUE.is("acts", x.count(8), 6);
    }

    private static void duty() {
        BowlState x = Due.of("GB1F050L00L00");
        DUE.is("ill", x.duty(1), 0);
        DUE.is("bits", x.count(7), 1);
        DUE.is("ill, too", x.duty(0), 0);
        DUE.is("bits", x.count(7), 0);
        DUE.is("well again", x.duty(1), 1);
        DUE.is("bits", x.count(7), 2);
        DUE.is("no lip", x.duty(2), BowlState.UNKNOWN);
        DUE.is("no lip -1", x.duty(-1), BowlState.UNKNOWN);
        DUE.is("acts", x.count(8), 3);
    }

    private static void undo() {
        BowlState x = Due.of("GB9F000");
        for (int act = 0; act < 20; act++) {
            x.tell(0, act % 10);
            DUE.is("acts", x.count(8), Math.min(14, act + 1));
        }
        for (int act = 19; act > 5; act--) {
            DUE.is("knows", x.fish(0, 3), act % 10);
            DUE.is("undo", x.undo(), act - 6);
        }
        DUE.is("the first ones are forgotten", x.fish(0, 3), 5);
        DUE.is("nothing to undo", x.undo(), BowlState.STATE);
        DUE.is("so it stays", x.fish(0, 3), 5);
        x.tell(0, 1);
        DUE.is("on from there", x.undo(), 0);
        DUE.is("and back", x.fish(0, 3), 5);
    }

    private static void undoOfEach() {
        BowlState x = Due.of("GB4B1F000F150F023L01");
        x.hour();
        x.hour();
        int[] was = all(x);
        x.hour();
        x.move(0, 1);
        x.water(0);
        x.tell(1, 8);
        x.duty(0);
        for (int left = 6; left >= 2; left--) {
            DUE.is("undo of each", x.undo(), left);
        }
        int[] is = all(x);
        for (int i = 0; i < was.length; i++) {
            DUE.is("undone, " + i, is[i], was[i]);
        }
        DUE.is("two hours are left", x.count(4), 2);
    }

    private static int[] all(BowlState x) {
        int[] all = new int[13];
        for (int fish = 0; fish < 3; fish++) {
            all[4 * fish] = x.fish(fish, 0);
            all[4 * fish + 1] = x.fish(fish, 3);
            all[4 * fish + 2] = x.fish(fish, 4);
            all[4 * fish + 3] = x.count(7);
        }
        all[12] = x.count(4);
        return all;
    }
}
