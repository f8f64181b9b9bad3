/** Promises 29 to 31: kept and gone on from, and what is counted. */
public final class SlotsTest {
    private static final Due DUE = new Due();

    public static void main(String[] args) {
        keep();
        again();
        nothingElse();
        count();
        DUE.end();
    }

    private static void keep() {
        BowlState x = Due.of("GB3F050L00");
        DUE.is("keep 0", x.keep(0), 0);
        x.hour();
        x.hour();
        DUE.is("keep 1", x.keep(1), 2);
        DUE.is("the row stays", x.count(8), 2);
        DUE.is("keep 2", x.keep(2), BowlState.UNKNOWN);
        DUE.is("keep -1", x.keep(-1), BowlState.UNKNOWN);
        DUE.is("again 2", x.again(2), BowlState.UNKNOWN);
        DUE.is("again -1", x.again(-1), BowlState.UNKNOWN);
        DUE.is("again 0", x.again(0), 0);
        DUE.is("again 1", x.again(1), 2);
        DUE.is("kept over", x.keep(0), 2);
        x.hour();
        DUE.is("again 0", x.again(0), 2);
    }

    private static void again() {
        BowlState x = Due.of("GB4B3F050F160F171L00L11");
        x.hour();
        x.duty(1);
        x.move(0, 1);
        x.tell(2, 3);
        x.keep(1);
        DUE.is("none in 0", x.again(0), BowlState.STATE);
        DUE.is("refused, the row stays", x.count(8), 4);
        x.hour();
        x.water(1);
        x.duty(0);
        x.duty(1);
        x.move(1, 0);
        x.tell(0, 9);
        DUE.is("again", x.again(1), 1);
        DUE.is("hour", x.count(4), 1);
        DUE.is("duty", x.count(7), 1);
        DUE.is("row", x.count(8), 0);
        DUE.is("undo", x.undo(), BowlState.STATE);
        int[][] due = {{1, 5, 3}, {1, 6, 3}, {1, 3, 3}};
        for (int fish = 0; fish < 3; fish++) {
            DUE.is("place of " + fish, x.fish(fish, 0), due[fish][0]);
            DUE.is("known of " + fish, x.fish(fish, 3), due[fish][1]);
            DUE.is("left of " + fish, x.fish(fish, 4), due[fish][2]);
        }
        x.hour();
        DUE.is("it stays kept", x.again(1), 1);
        DUE.is("it stays kept", x.count(4), 1);
    }

    private static void nothingElse() {
        BowlState x = Due.of("GB3F050L00");
        x.keep(0);
        x.say(0, 5);
        x.seed(8);
        x.write('B');
        x.again(0);
        DUE.is("said stays", x.count(9), 1);
        DUE.is("seed stays", x.seed(0), 8);
        DUE.is("text stays", x.count(0), 11);
        DUE.is("nothing of undo is kept", x.undo(), BowlState.STATE);
        x = new BowlState();
        x.hour();
        DUE.is("nothing can be kept", x.keep(0), 1);
        x.hour();
        DUE.is("and gone on from", x.again(0), 1);
        x.keep(1);
        Due.write(x, "G");
        x.hall();
        DUE.is("a hall ends it", x.again(0), BowlState.STATE);
        DUE.is("a hall ends it", x.again(1), BowlState.STATE);
    }

    private static void count() {
        BowlState x = Due.of("GB1B4B5F150F160F070L00L12L11");
        x.tell(0, 4);
        x.hour();
        x.duty(0);
        x.say(2, 4);
        x.say(2, 4);
        int[] due = {28, 3, 3, 3, 1, 7, 6, 6, 3, 2};
        for (int what = 0; what <= 9; what++) {
            DUE.is("count " + what, x.count(what), due[what]);
        }
        x.hour();
        x.water(1);
        DUE.is("knowing", x.count(5), 0);
        DUE.is("knowing their first", x.count(6), 0);
        DUE.is("count 10", x.count(10), BowlState.OUTSIDE);
        DUE.is("count -1", x.count(-1), BowlState.OUTSIDE);
    }
}
