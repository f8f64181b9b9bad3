import java.util.List;
import java.util.function.Supplier;

/** Which refusal comes first, that what is refused changes nothing, and that questions change nothing. */
public final class RefusedEdgesTest {
    private static final int UNKNOWN = BowlState.UNKNOWN, OUTSIDE = BowlState.OUTSIDE, STATE = BowlState.STATE,
        FULL = BowlState.FULL;

    /** A call, of which the answer is looked at. */
    private interface Call {
        long of(BowlState x);
    }

    private final Edges edges;

    RefusedEdgesTest(Edges edges) {
        this.edges = edges;
    }

    public static void main(String[] args) {
        Edges edges = new Edges();
        new RefusedEdgesTest(edges).all();
        edges.end();
    }

    void all() {
        numbersOfRefusals();
        firstOfSeveral();
        firstOfSeveralWhenAsking();
        firstWhenFull();
        refusedByNobody();
        refusedMidway();
        refusedByNumber();
        refusedWhenFull();
        questionsOfTheHall();
        questionsOfWhatIsKept();
        questionsOfChances();
        decadesChangeTheSeedAlone();
    }

    // ---- objects to be refused by

    /** In 3 bowls 5 fish and 3 lips; 8 acts, both slots kept, 3 said, a seed, another hall in the text. */
    private static BowlState midway() {
        BowlState x = Due.of("GB3B2B5F040F073F152F191F250L02L10L23");
        x.hour();
        x.keep(0);
        x.tell(0, 8);
        x.duty(1);
        x.hour();
        x.keep(1);
        x.water(1);
        x.move(2, 2);
        x.hour();
        x.tell(4, 0);
        x.say(0, 4);
        x.say(1, 9);
        x.say(4, 5);
        x.seed(-77);
        Due.write(x, "GB7B4F120L01");
        return x;
    }

    /** As much as may be: 48 letters, 14 acts and more, 6 said; three fish are in bowl 0. */
    private static BowlState full() {
        BowlState x = Due.of("GB9B2B3B4B5F000F013F022F141F190L00L11L22L33");
        for (int act = 0; act < 16; act++) {
            x.tell(act % 5, act % 10);
        }
        x.keep(1);
        x.hour();
        x.keep(0);
        for (int said = 0; said < 6; said++) {
            x.say(said % 5, said);
        }
        x.seed(Long.MAX_VALUE);
        Due.write(x, "GB1F000" + "X".repeat(41));
        return x;
    }

    /** Two objects alike, one of which is called: the answer, and then nothing but that may differ. */
    private void changesNothing(String what, Supplier<BowlState> made, Call call) {
        for (Seen seen : Seen.values()) {
            BowlState called = made.get();
            call.of(called);
            List<Long> with = seen.of(called);
            List<Long> without = seen.of(made.get());
            edges.holds(what + ", " + seen, with.equals(without));
        }
    }

    private void refused(String what, Supplier<BowlState> made, int refusal, Call call) {
        edges.is(what, call.of(made.get()), refusal);
        changesNothing(what, made, call);
    }

    // ---- which comes first

    private void numbersOfRefusals() {
        edges.terms("NONE is -9");
        edges.is("NONE", BowlState.NONE, -9);
        BowlState x = Due.of("GB1F000L00");
        edges.is("nothing is known", x.ahead(0, 1), 0);
        x.duty(0);
        edges.is("nothing is known then", x.ahead(0, 1), -9);
        edges.terms("UNKNOWN (there is no such BOWL, FISH, LIP, SLOT), OUTSIDE (another number is not as told), "
            + "STATE (as told), FULL.");
        edges.is("no such bowl", x.bowl(1, 0), -1);
        edges.is("no such fish", x.fish(1, 0), -1);
        edges.is("no such lip", x.lip(1, 0), -1);
        edges.is("no such slot", x.keep(2), -1);
        edges.is("another number", x.count(10), -2);
        edges.is("as told", x.again(0), -3);
        Due.write(x, "X".repeat(48));
        edges.is("full", x.write('X'), -4);
    }

    private void firstOfSeveral() {
        edges.terms("of several the first that a call names");
        BowlState x = Due.of("GB1B1F000F000F000F100L00");
        edges.is("bowl, what", x.bowl(2, 3), UNKNOWN);
        edges.is("bowl -1, what -1", x.bowl(-1, -1), UNKNOWN);
        edges.is("fish, what", x.fish(4, 6), UNKNOWN);
        edges.is("fish -1, what -1", x.fish(-1, -1), UNKNOWN);
        edges.is("lip, what", x.lip(1, 3), UNKNOWN);
        edges.is("lip -1, what -1", x.lip(-1, -1), UNKNOWN);
        edges.is("no fish, into a full bowl", x.move(4, 0), UNKNOWN);
        edges.is("no bowl, of one that is in a full one", x.move(0, 2), UNKNOWN);
        edges.is("no fish, no secret", x.tell(4, 10), UNKNOWN);
        edges.is("no fish -1, no secret -1", x.tell(-1, -1), UNKNOWN);
        edges.is("no slot, none kept", x.again(2), UNKNOWN);
        edges.is("no slot -1, none kept", x.again(-1), UNKNOWN);
    }

    private void firstOfSeveralWhenAsking() {
        edges.terms("of several the first that a call names");
        BowlState x = Due.of("GB1B1F000F000F000F100L00");
        edges.is("no fish, n 21", x.ahead(4, 21), UNKNOWN);
        edges.is("no fish, n -1", x.ahead(-1, -1), UNKNOWN);
        edges.is("no fish, no v", x.say(4, 10), UNKNOWN);
        edges.is("one is none, what 2", x.rests(4, 0, 2), UNKNOWN);
        edges.is("the other is none, what 2", x.rests(0, 4, 2), UNKNOWN);
        edges.is("both are one, that is none", x.rests(4, 4, 0), UNKNOWN);
        edges.is("both are one, that is none, what -1", x.rests(-1, -1, -1), UNKNOWN);
        edges.is("both are one, what 2", x.rests(1, 1, 2), OUTSIDE);
        edges.is("no fish, n 21", x.ill(4, 21, 0, true), UNKNOWN);
        edges.is("no fish, x 11", x.ill(4, 0, 11, true), UNKNOWN);
        edges.is("no fish, n -1, x -1", x.ill(-1, -1, -1, false), UNKNOWN);
        edges.is("n 21, x 11", x.ill(0, 21, 11, true), OUTSIDE);
        edges.is("n 0, row -1", x.judge(0, -1), OUTSIDE);
    }

    private void firstWhenFull() {
        edges.terms("of several the first that a call names");
        BowlState x = full();
        edges.is("a letter", x.write(255), FULL);
        edges.is("no letter", x.write(256), OUTSIDE);
        edges.is("no letter -1", x.write(-1), OUTSIDE);
        edges.is("v", x.say(4, 9), FULL);
        edges.is("no v", x.say(4, 10), OUTSIDE);
        edges.is("no v -1", x.say(4, -1), OUTSIDE);
        edges.is("no fish", x.say(5, 9), UNKNOWN);
        edges.is("no fish, no v", x.say(5, 10), UNKNOWN);
    }

    // ---- what is refused

    private void refusedByNobody() {
        edges.terms("What is refused changes nothing.");
        Supplier<BowlState> made = BowlState::new;
        refused("write", made, OUTSIDE, x -> x.write(256));
        refused("hall", made, STATE, x -> x.hall());
        refused("move", made, UNKNOWN, x -> x.move(0, 0));
        refused("water", made, UNKNOWN, x -> x.water(0));
        refused("tell", made, UNKNOWN, x -> x.tell(0, 0));
        refused("duty", made, UNKNOWN, x -> x.duty(0));
        refused("undo", made, STATE, x -> x.undo());
        refused("say", made, UNKNOWN, x -> x.say(0, 0));
        refused("decades", made, OUTSIDE, x -> x.decades(0));
        refused("keep", made, UNKNOWN, x -> x.keep(2));
        refused("again", made, STATE, x -> x.again(1));
    }

    private void refusedMidway() {
        edges.terms("What is refused changes nothing.");
        Supplier<BowlState> made = RefusedEdgesTest::midway;
        refused("write -1", made, OUTSIDE, x -> x.write(-1));
        refused("write 256", made, OUTSIDE, x -> x.write(256));
        refused("move, it is there", made, STATE, x -> x.move(2, 2));
        refused("move, no fish", made, UNKNOWN, x -> x.move(5, 1));
        refused("move, no bowl", made, UNKNOWN, x -> x.move(0, 3));
        refused("water, no bowl", made, UNKNOWN, x -> x.water(3));
        refused("tell, no fish", made, UNKNOWN, x -> x.tell(5, 3));
        refused("tell 10", made, OUTSIDE, x -> x.tell(0, 10));
        refused("tell -1", made, OUTSIDE, x -> x.tell(0, -1));
        refused("duty, no lip", made, UNKNOWN, x -> x.duty(3));
        refused("say, no fish", made, UNKNOWN, x -> x.say(5, 3));
        refused("say 10", made, OUTSIDE, x -> x.say(0, 10));
        refused("say -1", made, OUTSIDE, x -> x.say(0, -1));
        refused("decades 0", made, OUTSIDE, x -> x.decades(0));
        refused("decades 31", made, OUTSIDE, x -> x.decades(31));
        refused("keep 2", made, UNKNOWN, x -> x.keep(2));
        refused("again 2", made, UNKNOWN, x -> x.again(2));
        refused("count 10", made, OUTSIDE, x -> x.count(10));
        refused("judge 5", made, OUTSIDE, x -> x.judge(5, 0));
        refused("rests of one", made, OUTSIDE, x -> x.rests(1, 1, 0));
    }

    /** Wild numbers in each place where a number of something is told. */
    private void refusedByNumber() {
        edges.terms("What is refused changes nothing.");
        Supplier<BowlState> made = RefusedEdgesTest::midway;
        for (int wild : new int[] {Integer.MIN_VALUE, -1, 32, Integer.MAX_VALUE}) {
            refused("move of " + wild, made, UNKNOWN, x -> x.move(wild, 0));
            refused("move to " + wild, made, UNKNOWN, x -> x.move(0, wild));
            refused("water of " + wild, made, UNKNOWN, x -> x.water(wild));
            refused("tell to " + wild, made, UNKNOWN, x -> x.tell(wild, 0));
            refused("duty of " + wild, made, UNKNOWN, x -> x.duty(wild));
            refused("say by " + wild, made, UNKNOWN, x -> x.say(wild, 0));
            refused("keep in " + wild, made, UNKNOWN, x -> x.keep(wild));
            refused("again from " + wild, made, UNKNOWN, x -> x.again(wild));
        }
    }

    private void refusedWhenFull() {
        edges.terms("What is refused changes nothing.");
        Supplier<BowlState> made = RefusedEdgesTest::full;
        refused("a 49th letter", made, FULL, x -> x.write('B'));
        refused("no letter", made, OUTSIDE, x -> x.write(256));
        refused("a hall", made, STATE, x -> x.hall());
        refused("a fourth fish", made, STATE, x -> x.move(3, 0));
        refused("it is there", made, STATE, x -> x.move(3, 1));
        refused("no water", made, UNKNOWN, x -> x.water(5));
        refused("no secret", made, OUTSIDE, x -> x.tell(0, 10));
        refused("no lip", made, UNKNOWN, x -> x.duty(4));
        refused("a 7th said", made, FULL, x -> x.say(0, 0));
        refused("decades 31", made, OUTSIDE, x -> x.decades(31));
        refused("no slot", made, UNKNOWN, x -> x.keep(2));
        refused("no slot again", made, UNKNOWN, x -> x.again(2));
    }

    // ---- questions

    private void asked(String what, Call call) {
        changesNothing(what + " midway", RefusedEdgesTest::midway, call);
        changesNothing(what + " when full", RefusedEdgesTest::full, call);
        changesNothing(what + " of nobody", BowlState::new, call);
    }

    private void questionsOfTheHall() {
        edges.promise(4, "FAULT; NONE.");
        asked("fault", x -> x.fault());
        edges.promise(6, "LIPS that would be there in the next HOUR");
        asked("bowl", x -> x.bowl(2, 2));
        edges.promise(7, "how long it LASTS (5)");
        asked("fish", x -> x.fish(4, 5));
        edges.promise(8, "1 if it is on DUTY (2)");
        asked("lip", x -> x.lip(2, 2));
        edges.promise(31, "6 such that KNOW their FIRST secret (bits)");
        asked("count", x -> x.count(6));
    }

    private void questionsOfWhatIsKept() {
        edges.terms("In what follows nothing is changed.");
        asked("ahead 20", x -> x.ahead(0, 20));
        asked("lost", x -> x.lost(0));
        asked("crew", x -> x.crew());
        asked("keeps where it is", x -> x.keeps(0, 0));
        asked("keeps elsewhere", x -> x.keeps(0, 1));
        asked("best", x -> x.best(0));
        asked("judge of all kinds", x -> x.judge(4, 101200309400L));
        asked("judge of hours", x -> x.judge(4, 0));
        asked("judge of what can not be", x -> x.judge(4, 201000999000L));
    }

    private void questionsOfChances() {
        edges.terms("In what follows nothing is changed.");
        asked("firsts", x -> x.firsts(0));
        asked("share", x -> x.share(2, true));
        asked("rests", x -> x.rests(0, 1, 0));
        asked("rests, the first", x -> x.rests(0, 1, 1));
        asked("ill", x -> x.ill(0, 20, 5, true));
    }

    private void decadesChangeTheSeedAlone() {
        edges.terms("(Nothing changes but THE SEED.)");
        asked("decades", x -> {
            long was = x.seed(5);
            int together = x.decades(30);
            edges.holds("the seed goes on", x.seed(was) != 5);
            return together;
        });
    }
}
