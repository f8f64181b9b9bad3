/** Promises 1 to 8: a new object, the text, its fault, the hall and what can be read of it. */
public final class HallTest {
    private static final Due DUE = new Due();

    public static void main(String[] args) {
        newObject();
        write();
        wipe();
        faults();
        hall();
        hallMadeAnew();
        hallRefused();
        bowl();
        fish();
        lasting();
        lip();
        DUE.end();
    }

    private static void newObject() {
        BowlState x = new BowlState();
        for (int what = 0; what <= 9; what++) {
            DUE.is("new, count(" + what + ")", x.count(what), 0);
        }
        DUE.is("new, fault", x.fault(), 0);
        DUE.is("new, hall", x.hall(), BowlState.STATE);
        DUE.is("new, seed", x.seed(0), 0);
        DUE.is("new, undo", x.undo(), BowlState.STATE);
        DUE.is("new, again", x.again(0), BowlState.STATE);
        DUE.is("new, bowl", x.bowl(0, 0), BowlState.UNKNOWN);
        DUE.is("new, fish", x.fish(0, 0), BowlState.UNKNOWN);
        DUE.is("new, lip", x.lip(0, 0), BowlState.UNKNOWN);
    }

    private static void write() {
        BowlState x = new BowlState();
        DUE.is("write -1", x.write(-1), BowlState.OUTSIDE);
        DUE.is("write 256", x.write(256), BowlState.OUTSIDE);
        DUE.is("write least", x.write(Integer.MIN_VALUE), BowlState.OUTSIDE);
        DUE.is("refused, count", x.count(0), 0);
        for (int i = 1; i <= 48; i++) {
            DUE.is("write " + i, x.write(i % 2 == 0 ? 0 : 255), i);
        }
        DUE.is("the 49th", x.write(71), BowlState.FULL);
        DUE.is("outside comes ahead of full", x.write(256), BowlState.OUTSIDE);
        DUE.is("full, count", x.count(0), 48);
    }

    private static void wipe() {
        BowlState x = new BowlState();
        DUE.is("wipe of nothing", x.wipe(), 0);
        Due.write(x, "GB1");
        DUE.is("wipe of three", x.wipe(), 3);
        DUE.is("wiped, count", x.count(0), 0);
        DUE.is("wiped, wipe", x.wipe(), 0);
        DUE.is("written behind a wipe", x.write(71), 1);
        DUE.is("written behind a wipe, fault", x.fault(), BowlState.NONE);
    }

    private static void fault(String text, int place) {
        BowlState x = new BowlState();
        Due.write(x, text);
        DUE.is("fault of " + text, x.fault(), place);
        DUE.is("fault again of " + text, x.fault(), place);
        DUE.is("hall of " + text, x.hall() == BowlState.STATE ? 1 : 0, place == BowlState.NONE ? 0 : 1);
    }

    private static void faults() {
        fault("", 0);
        fault("G", BowlState.NONE);
        fault("g", 0);
        fault("B1", 0);
        fault("GG", 1);
        fault("GX", 1);
        fault("G1", 1);
        fault("Gb", 1);
        fault("G" + (char) 0, 1);
        fault("G" + (char) 1, 1);
        fault("GB", 2);
        fault("GB0", 2);
        fault("GB0F", 2);
        fault("GB:", 2);
        fault("GB/", 2);
        fault("GB" + (char) 255, 2);
        fault("GB1", BowlState.NONE);
        fault("GB9", BowlState.NONE);
        fault("GB11", 3);
        fault("GF", 1);
        fault("GL", 1);
        fault("GB1F", 4);
        fault("GB1F1", 4);
        fault("GB1F0", 5);
        fault("GB1FX", 4);
        fault("GB1F00", 6);
        fault("GB1F0:0", 5);
        fault("GB1F0/0", 5);
        fault("GB1F090", BowlState.NONE);
        fault("GB1F003", BowlState.NONE);
        fault("GB1F004", 6);
        fault("GB1F00/", 6);
        fault("GB1F1B1", 4);
        fault("GB1L", 4);
        fault("GB1L0", 5);
        fault("GB1L1", 4);
        fault("GB1L03", BowlState.NONE);
        fault("GB1L04", 5);
        fault("GB1L0/", 5);
        fault("GB1L/0", 4);
        fault("GB1B2B3B4B5", BowlState.NONE);
        fault("GB1B2B3B4B5B", 11);
        fault("GB1B2B3B4B5B6", 11);
        fault("GB1B2B3B4B5L40F400", BowlState.NONE);
        fault("GB1B2B3B4B5L50", 12);
        fault("GB1F000F000F000", BowlState.NONE);
        fault("GB1F000F000F000F", 15);
        fault("GB1F000F000F000B1F", 18);
        fault("GB1F000F000F000B1F0", 18);
        fault("GB1F000F000F000B1F1", 19);
        fault("GB1F000F000F000B1L00", BowlState.NONE);
        fault("GB1B1F000F000F000F100F100", BowlState.NONE);
        fault("GB1B1F000F000F000F100F100F", 25);
        fault("GB1L00L00L00L00", BowlState.NONE);
        fault("GB1L00L00L00L00L", 15);
        fault("GB1L00L00L00L00F000B2", BowlState.NONE);
        fault("GB1B2B3B4B5F000F011F022F133F190L00L11L22L33", BowlState.NONE);
        fault("GB1B2B3B4B5F000F011F022F133F190L00L11L22L33GGGGG", 43);
        fault("GXXXXXXXXXXXXXXXXXXXXXXXXXXXXXXXXXXXXXXXXXXXXXXX", 1);
    }

    private static void hall() {
        BowlState x = new BowlState();
        Due.write(x, "GB1B2B3B4B5F000F011F022F133F190L00L11L22L33");
        DUE.is("the longest hall", x.hall(), 554);
        DUE.is("its text stays", x.count(0), 43);
        DUE.is("its bowls", x.count(1), 5);
        DUE.is("its fish", x.count(2), 5);
        DUE.is("its lips", x.count(3), 4);
        DUE.is("its knowers", x.count(5), 31);
        DUE.is("its knowers of first ones", x.count(6), 31);
        DUE.is("its lips on duty", x.count(7), 15);
        Due.write(x, "G");
        DUE.is("the least hall", x.hall(), 0);
        DUE.is("no bowls", x.count(1), 0);
        DUE.is("no fish", x.fish(0, 0), BowlState.UNKNOWN);
        DUE.is("no lips", x.lip(0, 0), BowlState.UNKNOWN);
        DUE.is("nobody on duty", x.count(7), 0);
        Due.write(x, "GB3L00F011B2");
        DUE.is("parts in another order", x.hall(), 211);
    }

    private static void hallMadeAnew() {
        BowlState x = Due.of("GB3F010F020L00L00");
        x.seed(77);
        x.say(1, 4);
        x.keep(0);
        x.keep(1);
        x.duty(1);
        x.hour();
        x.tell(0, 9);
        DUE.is("anew", x.hall(), 122);
        DUE.is("anew, hour", x.count(4), 0);
        DUE.is("anew, acts", x.count(8), 0);
        DUE.is("anew, undo", x.undo(), BowlState.STATE);
        DUE.is("anew, duty", x.count(7), 3);
        DUE.is("anew, first secrets", x.count(6), 3);
        DUE.is("anew, left", x.fish(1, 4), 3);
        DUE.is("anew, slot 0", x.again(0), BowlState.STATE);
        DUE.is("anew, slot 1", x.again(1), BowlState.STATE);
        DUE.is("anew, said stays", x.count(9), 1);
        DUE.is("anew, seed stays", x.seed(0), 77);
    }

    private static void hallRefused() {
        BowlState x = Due.of("GB3F010L00");
        x.keep(0);
        x.hour();
        x.write('B');
        DUE.is("refused hall", x.hall(), BowlState.STATE);
        DUE.is("refused hall, hour", x.count(4), 1);
        DUE.is("refused hall, acts", x.count(8), 1);
        DUE.is("refused hall, bowls", x.count(1), 1);
        DUE.is("refused hall, slot", x.again(0), 0);
        Due.write(x, "GB5B5F171B0");
        DUE.is("a fault does not touch the hall", x.fault(), 10);
        DUE.is("so it is", x.bowl(0, 0), 3);
        DUE.is("so is its fish", x.fish(0, 1), 1);
    }

    private static void bowl() {
        BowlState x = Due.of("GB3B2B5F010F210F220L00L10L20L03");
        DUE.is("hours of 0", x.bowl(0, 0), 3);
        DUE.is("hours of 1", x.bowl(1, 0), 2);
        DUE.is("hours of 2", x.bowl(2, 0), 5);
        DUE.is("fish in 0", x.bowl(0, 1), 1);
        DUE.is("fish in 1", x.bowl(1, 1), 0);
        DUE.is("fish in 2", x.bowl(2, 1), 6);
        DUE.is("lips at 0", x.bowl(0, 2), 9);
        DUE.is("lips at 1", x.bowl(1, 2), 2);
        DUE.is("lips at 2", x.bowl(2, 2), 4);
        x.duty(3);
        x.hour();
        DUE.is("then lips at 0", x.bowl(0, 2), 4);
        DUE.is("then lips at 1, an ill one too", x.bowl(1, 2), 9);
        DUE.is("then lips at 2", x.bowl(2, 2), 2);
        x.move(0, 1);
        DUE.is("then fish in 1", x.bowl(1, 1), 1);
        DUE.is("no bowl 3", x.bowl(3, 0), BowlState.UNKNOWN);
        DUE.is("no bowl -1", x.bowl(-1, 0), BowlState.UNKNOWN);
        DUE.is("unknown comes ahead of outside", x.bowl(3, 3), BowlState.UNKNOWN);
        DUE.is("what 3", x.bowl(0, 3), BowlState.OUTSIDE);
        DUE.is("what -1", x.bowl(0, -1), BowlState.OUTSIDE);
    }

    private static void fish() {
        BowlState x = Due.of("GB3B8F171F092");
        int[][] due = {{1, 7, 1, 7, 8, 8}, {0, 9, 2, 9, 1, 1}};
        for (int fish = 0; fish < 2; fish++) {
            for (int what = 0; what <= 5; what++) {
                DUE.is("fish(" + fish + ", " + what + ")", x.fish(fish, what), due[fish][what]);
            }
            DUE.is("what 6", x.fish(fish, 6), BowlState.OUTSIDE);
            DUE.is("what -1", x.fish(fish, -1), BowlState.OUTSIDE);
        }
        x.water(0);
        DUE.is("knows nothing", x.fish(1, 3), BowlState.NONE);
        DUE.is("nothing is left", x.fish(1, 4), 0);
        DUE.is("it lasts all the same", x.fish(1, 5), 1);
        DUE.is("its first stays", x.fish(1, 1), 9);
        DUE.is("no fish 2", x.fish(2, 0), BowlState.UNKNOWN);
        DUE.is("no fish -1", x.fish(-1, 9), BowlState.UNKNOWN);
        DUE.is("no fish, greatest", x.fish(Integer.MAX_VALUE, 0), BowlState.UNKNOWN);
    }

    private static void lasting() {
        int[] fry = {1, 1, 1, 2, 2, 3, 3, 4, 4};
        for (int hours = 1; hours <= 9; hours++) {
            BowlState x = Due.of("GB" + hours + "B1F000F002F003F101");
            DUE.is("plain lasts", x.fish(0, 5), hours);
            DUE.is("fry lasts", x.fish(1, 5), fry[hours - 1]);
            DUE.is("echo lasts", x.fish(2, 5), hours);
            DUE.is("plain left", x.fish(0, 4), hours);
            DUE.is("fry left", x.fish(1, 4), fry[hours - 1]);
            x.move(3, 0);
            DUE.is("full, not moved", x.fish(3, 5), 1);
            x.move(0, 1);
            x.move(3, 0);
            DUE.is("old lasts where it is", x.fish(3, 5), hours);
        }
    }

    private static void lip() {
        BowlState x = Due.of("GB1B2L13L00");
        DUE.is("begins 0", x.lip(0, 0), 1);
        DUE.is("begins 1", x.lip(1, 0), 0);
        DUE.is("error 0", x.lip(0, 1), 3);
        DUE.is("error 1", x.lip(1, 1), 0);
        DUE.is("duty 0", x.lip(0, 2), 1);
        x.duty(0);
        x.hour();
        DUE.is("ill", x.lip(0, 2), 0);
        DUE.is("well", x.lip(1, 2), 1);
        DUE.is("where it begins stays", x.lip(0, 0), 1);
        DUE.is("no lip 2", x.lip(2, 0), BowlState.UNKNOWN);
        DUE.is("no lip -1", x.lip(-1, 3), BowlState.UNKNOWN);
        DUE.is("what 3", x.lip(0, 3), BowlState.OUTSIDE);
        DUE.is("what -1", x.lip(0, -1), BowlState.OUTSIDE);
    }
}
