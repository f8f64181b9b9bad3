import java.lang.management.ManagementFactory;

/** One room for all: what an object makes is made in its constructor, and no call makes any more. */
public final class RoomTest {
    private static final Due DUE = new Due();

    public static void main(String[] args) {
        com.sun.management.ThreadMXBean threads =
            (com.sun.management.ThreadMXBean) ManagementFactory.getThreadMXBean();
        long self = Thread.currentThread().getId();
        BowlState[] all = new BowlState[50];
        calls(Due.of("GB1B2B3B4B5F000F011F022F133F190L00L11L22L33"), 2000);
        long before = threads.getThreadAllocatedBytes(self);
        for (int i = 0; i < all.length; i++) {
            all[i] = new BowlState();
        }
        long each = (threads.getThreadAllocatedBytes(self) - before) / all.length;
        DUE.holds("an object is small: " + each + " bytes", each > 0 && each < 16000);
        BowlState x = Due.of("GB1B2B3B4B5F000F011F022F133F190L00L11L22L33");
        before = threads.getThreadAllocatedBytes(self);
        calls(x, 2000);
        long made = threads.getThreadAllocatedBytes(self) - before;
        DUE.holds("62,000 calls make nothing: " + made + " bytes", made < 62000);
        DUE.end();
    }

    private static void calls(BowlState x, int times) {
        for (int i = 0; i < times; i++) {
            x.wipe();
            x.write('G');
            x.fault();
            x.bowl(0, 2);
            x.fish(0, 5);
            x.lip(0, 2);
            x.hour();
            x.move(i % 5, i % 3);
            x.water(i % 5);
            x.tell(0, 3);
            x.duty(i % 4);
            x.undo();
            x.ahead(1, 20);
            x.lost(2);
            x.crew();
            x.keeps(1, 1);
            x.best(1);
            x.judge(4, 101000401502L);
            x.say(0, 1);
            x.unsay();
            x.firsts(0);
            x.share(1, true);
            x.rests(0, 1, 1);
            x.ill(0, 20, 3, true);
            x.seed(i);
            x.decades(30);
            x.keep(0);
            x.again(0);
            x.count(6);
        }
    }
}
