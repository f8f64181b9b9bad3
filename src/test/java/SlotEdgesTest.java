/** The edges of what is kept and gone on from, of what is counted, and of 512 calls; promises 29 to 31. */
public final class SlotEdgesTest {
    private final Edges edges;

    SlotEdgesTest(Edges edges) {
        this.edges = edges;
    }

    public static void main(String[] args) {
        Edges edges = new Edges();
        new SlotEdgesTest(edges).all();
        edges.end();
    }

    void all() {
        slotsNumbered();
        slotsKeepAll();
        rowIsEmptyThen();
        keepAnswer();
        keepUnknown();
        againAnswer();
        againUnknown();
        againState();
        countLeast();
        countMost();
        countOutside();
        hoursTo512();
        actsTo512();
        everyCallAt512();
    }

    private void slotsNumbered() {
        edges.terms("SLOTS 0 to 1 keep");
        BowlState x = new BowlState();
        for (int slot = -2; slot <= 3; slot++) {
            boolean is = slot == 0 || slot == 1;
            edges.is("again " + slot + ", none kept", x.again(slot), is ? BowlState.STATE : BowlState.UNKNOWN);
            edges.is("keep " + slot, x.keep(slot), is ? 0 : BowlState.UNKNOWN);
            edges.is("again " + slot, x.again(slot), is ? 0 : BowlState.UNKNOWN);
        }
    }

    private void slotsKeepAll() {
        edges.terms("where FISH are, what they KNOW, what is LEFT, who is on DUTY, THE HOUR");
        BowlState x = Due.of("GB6B3F050F161L00L10");
        x.keep(0);
        x.hour();
        x.move(0, 1);
        x.tell(1, 0);
        x.duty(1);
        x.hour();
        x.hour();
        x.keep(1);
        x.water(1);
        edges.is("again 0", x.again(0), 0);
        standsAs(x, new int[] {0, 1, 5, 6, 6, 3, 3, 0});
        edges.is("again 1", x.again(1), 3);
        standsAs(x, new int[] {1, 1, 5, 0, 2, 3, 1, 3});
        x.hour();
        edges.is("again 1, once more", x.again(1), 3);
        standsAs(x, new int[] {1, 1, 5, 0, 2, 3, 1, 3});
        slotsKeepFiveFish();
    }

    private void slotsKeepFiveFish() {
        BowlState x = Due.of("GB9B1F000F010F020F130F140L00L10L00L10");
        x.move(0, 1);
        x.move(4, 0);
        x.tell(4, 9);
        x.duty(3);
        x.keep(1);
        x.move(4, 1);
        x.move(1, 1);
        x.water(0);
        x.water(1);
        x.duty(0);
        x.duty(3);
        x.hour();
        edges.is("again, of five", x.again(1), 0);
        int[][] due = {{1, 0, 1}, {0, 1, 9}, {0, 2, 9}, {1, 3, 1}, {0, 9, 9}};
        for (int fish = 0; fish < 5; fish++) {
            edges.is("place of " + fish + ", of five", x.fish(fish, 0), due[fish][0]);
            edges.fishHas("of five", x, fish, due[fish][1], due[fish][2]);
        }
        edges.is("on duty, of four", x.count(7), 7);
    }

    /** Both places, both secrets, what is left of both, who is on duty, the hour. */
    private void standsAs(BowlState x, int[] due) {
        for (int fish = 0; fish < 2; fish++) {
            edges.is("place of " + fish, x.fish(fish, 0), due[fish]);
            edges.is("known by " + fish, x.fish(fish, 3), due[2 + fish]);
            edges.is("left of " + fish, x.fish(fish, 4), due[4 + fish]);
        }
        edges.is("on duty", x.count(7), due[6]);
        edges.is("the hour", x.count(4), due[7]);
    }

    private void rowIsEmptyThen() {
        edges.terms("(THE ROW of ACTS is empty when one goes on)");
        BowlState x = Due.of("GB6F050");
        for (int act = 0; act < 14; act++) {
            x.hour();
        }
        x.keep(0);
        edges.is("keeping leaves the row", x.count(8), 14);
        edges.is("undo", x.undo(), 13);
        x.again(0);
        edges.is("going on empties it", x.count(8), 0);
        edges.is("nothing to undo", x.undo(), BowlState.STATE);
        x.hour();
        edges.is("an act", x.count(8), 1);
        edges.is("undone", x.undo(), 0);
        edges.is("as it was gone on from", x.count(4), 14);
        x.again(1);
        edges.is("refused", x.undo(), BowlState.STATE);
    }

    private void keepAnswer() {
        edges.promise(29, "They are kept: THE HOUR.");
        BowlState x = new BowlState();
        edges.is("of nobody", x.keep(1), 0);
        for (int hour = 1; hour <= 30; hour++) {
            x.hour();
            edges.is("hour " + hour, x.keep(hour % 2), hour);
        }
        edges.is("over what was kept", x.again(0), 30);
        edges.is("the other", x.again(1), 29);
    }

    private void keepUnknown() {
        edges.promise(29, "UNKNOWN.");
        BowlState x = Due.of("GB6F050");
        for (int wild : Edges.WILD) {
            edges.is("slot " + wild, x.keep(wild), BowlState.UNKNOWN);
        }
        edges.is("slot 2", x.keep(2), BowlState.UNKNOWN);
        edges.is("none is kept in 0", x.again(0), BowlState.STATE);
        edges.is("none is kept in 1", x.again(1), BowlState.STATE);
        edges.is("slot 0", x.keep(0), 0);
        edges.is("slot 1", x.keep(1), 0);
    }

    private void againAnswer() {
        edges.promise(30, "They are as they were kept: THE HOUR.");
        BowlState x = Due.of("GB6F050");
        x.keep(0);
        x.hour();
        x.keep(1);
        x.hour();
        edges.is("the later one", x.again(1), 1);
        edges.fishHas("the later one", x, 0, 5, 5);
        edges.is("the earlier one", x.again(0), 0);
        edges.fishHas("the earlier one", x, 0, 5, 6);
        edges.is("the later one again", x.again(1), 1);
        edges.fishHas("the later one again", x, 0, 5, 5);
    }

    private void againUnknown() {
        edges.promise(30, "UNKNOWN");
        BowlState x = Due.of("GB6F050");
        x.keep(0);
        x.keep(1);
        x.hour();
        for (int wild : Edges.WILD) {
            edges.is("slot " + wild, x.again(wild), BowlState.UNKNOWN);
        }
        edges.is("slot 2", x.again(2), BowlState.UNKNOWN);
        edges.is("the hour stays", x.count(4), 1);
        edges.is("the row stays", x.count(8), 1);
        edges.is("slot 1", x.again(1), 0);
    }

    private void againState() {
        edges.promise(30, "STATE: none were kept.");
        BowlState x = Due.of("GB6F050");
        x.hour();
        edges.is("slot 0", x.again(0), BowlState.STATE);
        edges.is("slot 1", x.again(1), BowlState.STATE);
        edges.is("the hour stays", x.count(4), 1);
        edges.is("the row stays", x.count(8), 1);
        x.keep(1);
        edges.is("slot 0, when 1 is kept", x.again(0), BowlState.STATE);
        edges.is("slot 1, kept", x.again(1), 1);
        x.hall();
        edges.is("slot 1, a new hall", x.again(1), BowlState.STATE);
        x.keep(0);
        edges.is("slot 0, kept", x.again(0), 0);
        edges.is("slot 1, when 0 is kept", x.again(1), BowlState.STATE);
    }

    private static final String[] COUNTED = {"0 letters of THE TEXT", "1 BOWLS", "2 FISH", "3 LIPS", "4 THE HOUR",
        "5 FISH that KNOW anything (bits)", "6 such that KNOW their FIRST secret (bits)", "7 LIPS on DUTY (bits)",
        "8 ACTS in the row", "9 SAID"};

    private void counted(String when, BowlState x, int[] due) {
        for (int what = 0; what < COUNTED.length; what++) {
            edges.promise(31, COUNTED[what]);
            edges.is(when, x.count(what), due[what]);
        }
    }

    private void countLeast() {
        counted("the least of each", new BowlState(), new int[10]);
        BowlState x = Due.of("GB1F000F000L00");
        x.wipe();
        x.duty(0);
        x.water(0);
        x.undo();
        x.tell(0, 9);
        counted("each for itself", x, new int[] {0, 1, 2, 1, 0, 3, 2, 0, 2, 0});
    }

    private void countMost() {
        BowlState x = Due.of("GB9B9B9B9B9F000F010F020F130F490L00L10L20L30");
        Due.write(x, "X".repeat(50));
        for (int said = 0; said < 7; said++) {
            x.say(4, 9);
        }
        for (int hour = 0; hour < 20; hour++) {
            x.hour();
        }
        counted("the most of each", x, new int[] {48, 5, 5, 4, 20, 31, 31, 15, 14, 6});
    }

    private void countOutside() {
        edges.promise(31, "OUTSIDE.");
        BowlState x = Due.of("GB9F000L00");
        for (int wild : Edges.WILD) {
            edges.is("what " + wild, x.count(wild), BowlState.OUTSIDE);
        }
        edges.is("what 0", x.count(0), 10);
        edges.is("what 9", x.count(9), 0);
        edges.is("what 10", x.count(10), BowlState.OUTSIDE);
        edges.is("what 11", x.count(11), BowlState.OUTSIDE);
    }

    // ---- 512 calls

    private static final String CALLS = "An object is used for at most 512 calls after it has been made";

    private void hoursTo512() {
        edges.beginning(CALLS);
        BowlState x = new BowlState();
        for (int call = 1; call <= 511; call++) {
            x.hour();
        }
        edges.is("the 512th call", x.count(4), 511);
        BowlState y = new BowlState();
        for (int call = 1; call <= 511; call++) {
            y.write('G');
        }
        edges.is("the 512th call", y.wipe(), 48);
        BowlState z = new BowlState();
        for (int call = 1; call <= 511; call++) {
            z.decades(30);
        }
        edges.holds("the 512th call", z.seed(0) != 0);
    }

    private void actsTo512() {
        edges.beginning(CALLS);
        String text = "GB3B2F050F161L00";
        BowlState x = Due.of(text);
        int made = 2 + text.length();
        for (int call = made + 1; call <= 498; call++) {
            x.tell(0, call % 10);
        }
        for (int call = 499; call <= 511; call++) {
            edges.is("call " + call, x.undo(), 512 - call);
        }
        edges.is("the 512th call", x.undo(), 0);
    }

    /** Each call once as the 512th of its object, and early of another one: questions and refusals come between. */
    private void everyCallAt512() {
        edges.beginning(CALLS);
        for (int kind = 0; kind < 30; kind++) {
            BowlState early = usedFor80Calls();
            BowlState late = usedFor80Calls();
            for (int call = 81; call <= 511; call++) {
                askOrBeRefused(late, call % 10);
            }
            edges.is("call " + kind + " as the 512th", callOf(late, kind), callOf(early, kind));
        }
    }

    private static BowlState usedFor80Calls() {
        BowlState x = Due.of("GB1B3B2B9F050F161F072F183F290L00L13L32");
        x.say(4, 3);
        x.seed(44);
        for (int call = 43; call <= 80; call++) {
            switch (call % 7) {
                case 0 -> x.tell(call % 5, call % 10);
                case 1 -> x.move(call % 5, call % 4);
                case 2 -> x.duty(call % 3);
                case 3 -> x.keep(call % 2);
                case 4 -> x.water(call % 4);
                default -> x.hour();
            }
        }
        return x;
    }

    private static void askOrBeRefused(BowlState x, int kind) {
        switch (kind) {
            case 0 -> x.write(256);
            case 1 -> x.fault();
            case 2 -> x.fish(4, 3);
            case 3 -> x.move(5, 0);
            case 4 -> x.crew();
            case 5 -> x.judge(4, 101000401502L);
            case 6 -> x.say(0, 10);
            case 7 -> x.share(0, true);
            case 8 -> x.decades(31);
            default -> x.again(2);
        }
    }

    private static long callOf(BowlState x, int kind) {
        return switch (kind) {
            case 0 -> x.write(255);
            case 1 -> x.wipe();
            case 2 -> x.fault();
            case 3 -> x.hall();
            case 4 -> x.bowl(3, 2);
            case 5 -> x.fish(4, 4);
            case 6 -> x.lip(2, 2);
            case 7 -> x.hour();
            case 8 -> x.move(0, 3);
            case 9 -> x.water(3);
            case 10 -> x.tell(4, 9);
            case 11 -> x.duty(2);
            case 12 -> x.undo();
            case 13 -> x.ahead(3, 20);
            case 14 -> x.lost(2);
            case 15 -> x.crew();
            case 16 -> x.keeps(4, 3);
            case 17 -> x.best(4);
            case 18 -> x.judge(4, 505L);
            case 19 -> x.say(4, 9);
            case 20 -> x.unsay();
            case 21 -> x.firsts(4);
            case 22 -> x.share(2, false);
            case 23 -> x.rests(0, 4, 0);
            case 24 -> x.ill(0, 20, 3, false);
            case 25 -> x.seed(Long.MIN_VALUE);
            case 26 -> x.decades(30);
            case 27 -> x.keep(1);
            case 28 -> x.again(1);
            default -> x.count(6);
        };
    }
}
