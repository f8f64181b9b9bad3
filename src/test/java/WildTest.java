import java.util.Random;

/** Rule 7: no call throws or fails to end, for any arguments in any state, of any number of calls. */
public final class WildTest {
    private static final int[] WILD = {Integer.MIN_VALUE, Integer.MIN_VALUE + 1, -10, -9, -5, -4, -3, -2, -1, 0, 1, 2,
        3, 4, 5, 6, 7, 8, 9, 10, 11, 12, 20, 21, 30, 31, 32, 33, 63, 64, 255, 256, 1 << 16, 1 << 30,
        Integer.MAX_VALUE - 1, Integer.MAX_VALUE};
    private static final Due DUE = new Due();
    private static final Random RANDOM = new Random(9);

    public static void main(String[] args) {
        for (int object = 0; object < 200; object++) {
            BowlState x = new BowlState();
            for (int call = 0; call < 2000; call++) {
                if (call % 250 == 0) {
                    Due.write(x, RandomRunsTest.hallText(RANDOM));
                    x.hall();
                }
                call(x, RANDOM.nextInt(30));
            }
        }
        DUE.end();
    }

    private static int any() {
        return RANDOM.nextInt(3) == 0 ? WILD[RANDOM.nextInt(WILD.length)] : RANDOM.nextInt(5);
    }

    private static long anyLong() {
        switch (RANDOM.nextInt(3)) {
            case 0:
                return RANDOM.nextLong();
            case 1:
                return any();
            default:
                return (RANDOM.nextLong() >>> 1) % 1000000000000L;
        }
    }

    private static void between(String call, long got, long least, long most) {
        DUE.holds(call + " answered " + got, got == BowlState.NONE || got >= least && got <= most);
    }

    private static void call(BowlState x, int kind) {
        switch (kind) {
            case 0 -> between("write", x.write(any()), -4, 48);
            case 1 -> between("wipe", x.wipe(), 0, 48);
            case 2 -> between("fault", x.fault(), 0, 48);
            case 3 -> between("hall", x.hall(), -3, 554);
            case 4 -> between("bowl", x.bowl(any(), any()), -2, 31);
            case 5 -> between("fish", x.fish(any(), any()), -2, 9);
            case 6 -> between("lip", x.lip(any(), any()), -2, 4);
            case 7 -> between("hour", x.hour(), 0, 5);
            case 8 -> between("move", x.move(any(), any()), -3, 4);
            case 9 -> between("water", x.water(any()), -1, 5);
            case 10 -> between("tell", x.tell(any(), any()), -2, 9);
            case 11 -> between("duty", x.duty(any()), -1, 1);
            case 12 -> between("undo", x.undo(), -3, 13);
            case 13 -> between("ahead", x.ahead(any(), any()), -2, 9);
            case 14 -> between("lost", x.lost(any()), -1, 20);
            case 15 -> between("crew", x.crew(), 0, 15);
            case 16 -> between("keeps", x.keeps(any(), any()), -1, 12);
            case 17 -> between("best", x.best(any()), -1, 4);
            case 18 -> between("judge", x.judge(any(), anyLong()), -2, 3);
            case 19 -> between("say", x.say(any(), any()), -4, 6);
            case 20 -> between("unsay", x.unsay(), 0, 6);
            case 21 -> between("firsts", x.firsts(any()), -1, 1023);
            case 22 -> between("share", x.share(any(), RANDOM.nextBoolean()), -1, 60);
            case 23 -> between("rests", x.rests(any(), any(), any()), -2, 44);
            case 24 -> between("ill", x.ill(any(), any(), any(), RANDOM.nextBoolean()), -2, 10000);
            case 25 -> x.seed(anyLong());
            case 26 -> between("decades", x.decades(any()), -2, 150);
            case 27 -> between("keep", x.keep(any()), -1, 2000);
            case 28 -> between("again", x.again(any()), -3, 2000);
            default -> between("count", x.count(any()), -2, 2000);
        }
    }
}
