/** The edges of acts: an hour, moved, water, told, duty, the row of acts; promises 9 to 14. */
public final class ActEdgesTest {
    private final Edges edges;

    ActEdgesTest(Edges edges) {
        this.edges = edges;
    }

    public static void main(String[] args) {
        Edges edges = new Edges();
        new ActEdgesTest(edges).all();
        edges.end();
    }

    void all() {
        hourAnswer();
        hourTakesOne();
        lipsOnDutyAlone();
        lipsByNumber();
        roundWraps();
        errorWraps();
        leftOfAllThatAreThere();
        echoAlone();
        echoSumWraps();
        hourIsOneMore();
        movedRoom();
        movedLeft();
        moveAnswer();
        moveUnknown();
        moveState();
        waterOf();
        waterAnswer();
        waterUnknown();
        told();
        tellAnswer();
        tellUnknown();
        tellOutside();
        dutyTurns();
        dutyAnswer();
        dutyUnknown();
        rowOfActs();
        rowOfRefused();
        lastUndone();
        undoAnswer();
        undoState();
    }

    private void hourAnswer() {
        edges.promise(9, "AN HOUR: how many FISH KNOW anything then.");
        edges.is("of nobody", new BowlState().hour(), 0);
        edges.is("without fish", Due.of("GB1L00").hour(), 0);
        edges.is("nobody knows any more", Due.of("GB1B1F000F000F000F100F100").hour(), 0);
        edges.is("all know", Due.of("GB2B2F000F000F000F100F100").hour(), 5);
        edges.is("those know that were told", Due.of("GB1B1F000F000F000F100F100L13").hour(), 2);
        BowlState x = Due.of("GB2F000");
        edges.is("the last hour but one", x.hour(), 1);
        edges.is("the last hour", x.hour(), 0);
        edges.is("an hour behind it", x.hour(), 0);
    }

    private void hourTakesOne() {
        edges.terms("1 less is LEFT; if that is 0, it KNOWS nothing");
        for (int hours = 1; hours <= 9; hours++) {
            BowlState x = Due.of("GB" + hours + "F040");
            for (int left = hours; left >= 1; left--) {
                edges.fishHas("of " + hours, x, 0, 4, left);
                x.hour();
            }
            edges.fishHas("of " + hours, x, 0, BowlState.NONE, 0);
            x.hour();
            edges.fishHas("of " + hours + ", one more", x, 0, BowlState.NONE, 0);
        }
    }

    private void lipsOnDutyAlone() {
        edges.terms("LIPS by number that are on DUTY");
        for (int bits = 0; bits < 16; bits++) {
            BowlState x = Due.of("GB1F000L00L01L02L03");
            for (int lip = 0; lip < 4; lip++) {
                if ((bits >> lip & 1) == 0) {
                    x.duty(lip);
                }
            }
            edges.is("hour by " + bits, x.hour(), bits == 0 ? 0 : 1);
            int first = bits == 0 ? BowlState.NONE : Integer.numberOfTrailingZeros(bits);
            edges.is("the first one of them tells", x.fish(0, 3), first);
        }
    }

    private void lipsByNumber() {
        edges.terms("there by number each FISH that KNOWS nothing is told its FIRST secret");
        BowlState x = Due.of("GB1F090F080F070L03L00");
        x.hour();
        edges.fishHas("the first lip", x, 0, 2, 1);
        edges.fishHas("the first lip", x, 1, 1, 1);
        edges.fishHas("the first lip", x, 2, 0, 1);
        x = Due.of("GB2F090F080L03");
        x.tell(1, 0);
        x.hour();
        edges.fishHas("one that knows is told nothing", x, 0, 9, 2);
        edges.fishHas("nor one that knows 0", x, 1, 0, 2);
    }

    private void roundWraps() {
        edges.terms("each is at the BOWL that is left of its first one and THE HOUR by how many BOWLS there are");
        for (int bowls = 1; bowls <= 5; bowls++) {
            String text = "G" + "B1".repeat(bowls);
            for (int fish = 0; fish < bowls; fish++) {
                text += "F" + fish + "00";
            }
            for (int begins = 0; begins < bowls; begins++) {
                BowlState x = Due.of(text + "L" + begins + "0");
                for (int hour = 0; hour < 12; hour++) {
                    x.hour();
                    edges.is("of " + bowls + " from " + begins + ", hour " + hour, x.count(5),
                        1 << (begins + hour) % bowls);
                }
            }
        }
    }

    private void errorWraps() {
        edges.terms("with the ERROR more (by 10)");
        for (int first = 0; first <= 9; first++) {
            for (int error = 0; error <= 3; error++) {
                BowlState x = Due.of("GB1F0" + first + "0L0" + error);
                x.hour();
                int[] wrapped = {0, 1, 2, 3, 4, 5, 6, 7, 8, 9, 0, 1, 2};
                edges.is("told " + first + " and " + error, x.fish(0, 3), wrapped[first + error]);
            }
        }
    }

    private void leftOfAllThatAreThere() {
        edges.terms("of each FISH that is there (told now, or knowing already, OLD ones, too) "
            + "LEFT is how long it LASTS");
        BowlState x = Due.of("GB6B2F050F062F070F181L00");
        x.duty(0);
        x.water(0);
        x.tell(2, 7);
        x.move(2, 1);
        x.move(2, 0);
        x.move(3, 0);
        edges.is("three are there, and the old one has no room", x.fish(3, 0), 1);
        x.duty(0);
        x.hour();
        edges.fishHas("told now", x, 0, 5, 6);
        edges.fishHas("told now, fry", x, 1, 6, 3);
        edges.fishHas("knowing already", x, 2, 7, 6);
        x.move(0, 1);
        x.move(3, 0);
        edges.fishHas("old, less is left", x, 3, 8, 2);
        x.hour();
        x.hour();
        edges.fishHas("old ones, too", x, 3, 8, 6);
        edges.fishHas("one elsewhere is not touched", x, 0, 5, 1);
    }

    private void echoAlone() {
        edges.terms("if another one in its BOWL KNOWS anything");
        BowlState x = Due.of("GB3B3F053F160");
        x.hour();
        edges.fishHas("alone", x, 0, 5, 2);
        x.move(1, 0);
        x.water(0);
        x.hour();
        edges.fishHas("another one that knows nothing", x, 0, BowlState.NONE, 0);
        x.tell(1, 0);
        x.hour();
        edges.fishHas("another one that knows 0", x, 0, 0, 3);
        x = Due.of("GB1F053F060");
        x.hour();
        edges.fishHas("another one that knew until this hour", x, 0, BowlState.NONE, 0);
    }

    private void echoSumWraps() {
        edges.terms("it KNOWS the sum of what others in it KNOW (by 10)");
        int[][] rows = {{0, 0, 0}, {0, 9, 9}, {4, 5, 9}, {5, 5, 0}, {1, 9, 0}, {9, 9, 8}, {2, 9, 1}};
        for (int[] row : rows) {
            BowlState x = Due.of("GB9F073F0" + row[0] + "0F0" + row[1] + "0");
            x.hour();
            edges.fishHas("the sum of " + row[0] + " and " + row[1], x, 0, row[2], 9);
        }
        BowlState x = Due.of("GB9F073F083F093");
        x.hour();
        edges.fishHas("8 and 9, by 10", x, 0, 7, 9);
        edges.fishHas("by number: 7 and 9", x, 1, 6, 9);
        edges.fishHas("by number: 7 and 6", x, 2, 3, 9);
    }

    private void hourIsOneMore() {
        edges.terms("THE HOUR is one more.");
        BowlState x = new BowlState();
        for (int hour = 1; hour <= 200; hour++) {
            x.hour();
            edges.is("the hour", x.count(4), hour);
        }
    }

    private void movedRoom() {
        edges.terms("MOVED: a FISH is in another BOWL in which 2 or fewer are");
        BowlState x = Due.of("GB1B1F100F010F010F010F100");
        edges.is("3 are in it", x.move(0, 0), BowlState.STATE);
        edges.is("1 is in the other", x.move(1, 1), 0);
        edges.is("it is there", x.fish(1, 0), 1);
        edges.is("2 are in it now", x.move(0, 0), 1);
        edges.is("3 are in it again", x.move(4, 0), BowlState.STATE);
        edges.is("its own one", x.move(4, 1), BowlState.STATE);
        x = Due.of("GB1B1B1F000");
        edges.is("none is in it", x.move(0, 2), 0);
        edges.is("it is there", x.bowl(2, 1), 1);
        edges.is("and nowhere else", x.bowl(0, 1), 0);
    }

    private void movedLeft() {
        edges.terms("LEFT is at most how long it LASTS there.");
        BowlState x = Due.of("GB5B4B6F020");
        x.move(0, 1);
        edges.fishHas("one more was left", x, 0, 2, 4);
        x.move(0, 0);
        edges.fishHas("one less was left", x, 0, 2, 4);
        x = Due.of("GB5B5F020F031F042");
        x.move(0, 1);
        edges.fishHas("as much was left", x, 0, 2, 5);
        x.move(2, 1);
        edges.fishHas("fry", x, 2, 4, 2);
        x = Due.of("GB5B1F021F032F040");
        x.water(0);
        x.move(0, 1);
        edges.fishHas("old", x, 0, 2, 1);
        x.move(1, 1);
        edges.fishHas("nothing stays nothing", x, 1, BowlState.NONE, 0);
        x = Due.of("GB8B3F022");
        x.move(0, 1);
        edges.fishHas("fry, cut, 1 at least", x, 0, 2, 1);
    }

    private void moveAnswer() {
        edges.promise(10, "MOVED: the BOWL where it was.");
        BowlState x = Due.of("GB1B1B1B1B1F400");
        int[] way = {0, 4, 1, 3, 2};
        int was = 4;
        for (int bowl : way) {
            edges.is("to " + bowl, x.move(0, bowl), was);
            edges.is("it is there", x.fish(0, 0), bowl);
            was = bowl;
        }
        edges.is("acts", x.count(8), 5);
    }

    private void moveUnknown() {
        edges.promise(10, "UNKNOWN: both");
        BowlState x = Due.of("GB1B1F000F010");
        for (int wild : Edges.WILD) {
            edges.is("fish " + wild, x.move(wild, 1), BowlState.UNKNOWN);
            edges.is("bowl " + wild, x.move(0, wild), BowlState.UNKNOWN);
            edges.is("both " + wild, x.move(wild, wild), BowlState.UNKNOWN);
        }
        edges.is("fish 2", x.move(2, 1), BowlState.UNKNOWN);
        edges.is("bowl 2", x.move(0, 2), BowlState.UNKNOWN);
        edges.is("no act", x.count(8), 0);
        edges.is("the last fish, the last bowl", x.move(1, 1), 0);
        edges.is("no fish, no bowl", new BowlState().move(0, 0), BowlState.UNKNOWN);
    }

    private void moveState() {
        edges.promise(10, "STATE: it is there, or 3 are");
        BowlState x = Due.of("GB4B1F000F010F020F130");
        edges.is("it is there", x.move(3, 1), BowlState.STATE);
        edges.is("3 are", x.move(3, 0), BowlState.STATE);
        edges.is("it is there, and 3 are", x.move(2, 0), BowlState.STATE);
        edges.is("no act", x.count(8), 0);
        edges.fishHas("nothing is cut", x, 2, 2, 4);
        edges.is("2 are", x.move(2, 1), 0);
        edges.is("2 are, too", x.move(3, 0), 1);
    }

    private void waterOf() {
        edges.terms("WATER: of a BOWL is changed: all FISH in it but OLD ones KNOW nothing.");
        BowlState x = Due.of("GB4B4F010F022F033F141F150");
        x.water(0);
        for (int fish = 0; fish < 3; fish++) {
            edges.fishHas("all of it", x, fish, BowlState.NONE, 0);
        }
        edges.fishHas("another bowl", x, 3, 4, 4);
        edges.fishHas("another bowl", x, 4, 5, 4);
        x.water(1);
        edges.fishHas("but old ones", x, 3, 4, 4);
        edges.fishHas("the last fish", x, 4, BowlState.NONE, 0);
    }

    private void waterAnswer() {
        edges.promise(11, "WATER: how many forgot.");
        BowlState x = Due.of("GB4B4B4F010F020F030F141F151");
        edges.is("full", x.water(0), 3);
        edges.is("again", x.water(0), 0);
        edges.is("old ones", x.water(1), 0);
        edges.is("empty", x.water(2), 0);
        x.tell(1, 0);
        edges.is("one that knows 0", x.water(0), 1);
        edges.is("each is an act", x.count(8), 6);
    }

    private void waterUnknown() {
        edges.promise(11, "UNKNOWN.");
        BowlState x = Due.of("GB4B4F010F100");
        for (int wild : Edges.WILD) {
            edges.is("bowl " + wild, x.water(wild), BowlState.UNKNOWN);
        }
        edges.is("bowl 2", x.water(2), BowlState.UNKNOWN);
        edges.is("no act", x.count(8), 0);
        edges.is("all know", x.count(5), 3);
        edges.is("the last bowl", x.water(1), 1);
        edges.is("no bowls", new BowlState().water(0), BowlState.UNKNOWN);
    }

    private void told() {
        edges.terms("TOLD: a FISH KNOWS a secret, LEFT is how long it LASTS.");
        BowlState x = Due.of("GB5F010F021F032");
        x.hour();
        x.tell(0, 1);
        edges.fishHas("what it knew", x, 0, 1, 5);
        x.tell(1, 9);
        edges.fishHas("old", x, 1, 9, 5);
        x.tell(2, 0);
        edges.fishHas("fry", x, 2, 0, 2);
        x.water(0);
        x.tell(0, 0);
        edges.fishHas("one that knew nothing", x, 0, 0, 5);
    }

    private void tellAnswer() {
        edges.promise(12, "TOLD: what it KNEW; NONE.");
        BowlState x = Due.of("GB5F000");
        edges.is("0", x.tell(0, 9), 0);
        edges.is("9", x.tell(0, 9), 9);
        x.water(0);
        edges.is("nothing", x.tell(0, 0), BowlState.NONE);
        edges.is("0 again", x.tell(0, 0), 0);
        edges.is("each is an act", x.count(8), 5);
    }

    private void tellUnknown() {
        edges.promise(12, "UNKNOWN");
        BowlState x = Due.of("GB5F000F010");
        for (int wild : Edges.WILD) {
            edges.is("fish " + wild, x.tell(wild, 5), BowlState.UNKNOWN);
        }
        edges.is("fish 2", x.tell(2, 5), BowlState.UNKNOWN);
        edges.is("no act", x.count(8), 0);
        edges.is("the last fish", x.tell(1, 5), 1);
        edges.is("no fish", new BowlState().tell(0, 0), BowlState.UNKNOWN);
    }

    private void tellOutside() {
        edges.promise(12, "OUTSIDE: secret");
        BowlState x = Due.of("GB5F040");
        for (int wild : Edges.WILD) {
            edges.is("secret " + wild, x.tell(0, wild), BowlState.OUTSIDE);
        }
        edges.is("secret 10", x.tell(0, 10), BowlState.OUTSIDE);
        edges.is("no act", x.count(8), 0);
        edges.fishHas("it knows what it knew", x, 0, 4, 5);
        edges.is("secret 0", x.tell(0, 0), 4);
        edges.is("secret 9", x.tell(0, 9), 0);
        edges.is("it knows 9", x.fish(0, 3), 9);
    }

    private void dutyTurns() {
        edges.terms("DUTY: a LIP is ill, or on DUTY again.");
        BowlState x = Due.of("GB1F000L00L00L00L00");
        for (int lip = 0; lip < 4; lip++) {
            x.duty(lip);
            edges.is("ill up to " + lip, x.count(7), 15 & 14 << lip);
        }
        edges.is("nobody tells", x.hour(), 0);
        for (int lip = 0; lip < 4; lip++) {
            x.duty(lip);
            edges.is("again up to " + lip, x.count(7), (2 << lip) - 1);
        }
        edges.is("they tell again", x.hour(), 1);
    }

    private void dutyAnswer() {
        edges.promise(13, "DUTY: 1 if it is on it then, 0.");
        BowlState x = Due.of("GB1L00L00L00L00");
        for (int lip = 0; lip < 4; lip++) {
            edges.is("ill", x.duty(lip), 0);
            edges.is("on duty", x.duty(lip), 1);
            edges.is("ill again", x.duty(lip), 0);
        }
        edges.is("each is an act", x.count(8), 12);
    }

    private void dutyUnknown() {
        edges.promise(13, "UNKNOWN.");
        BowlState x = Due.of("GB1L00L00");
        for (int wild : Edges.WILD) {
            edges.is("lip " + wild, x.duty(wild), BowlState.UNKNOWN);
        }
        edges.is("lip 2", x.duty(2), BowlState.UNKNOWN);
        edges.is("no act", x.count(8), 0);
        edges.is("all are on duty", x.count(7), 3);
        edges.is("the last lip", x.duty(1), 0);
        edges.is("no lips", new BowlState().duty(0), BowlState.UNKNOWN);
    }

    private void rowOfActs() {
        edges.terms("ACTS (HOURS, MOVED, WATER, TOLD, DUTY) are a row "
            + "(14 at most; of more the first one is forgotten)");
        for (int acts = 12; acts <= 30; acts++) {
            BowlState x = Due.of("GB9F000");
            for (int act = 1; act <= acts; act++) {
                x.tell(0, act % 10);
                edges.is("the row of " + act, x.count(8), Math.min(act, 14));
            }
            int there = Math.min(acts, 14);
            for (int undone = 1; undone <= there; undone++) {
                edges.is("undo of " + acts, x.undo(), there - undone);
                edges.is("back to " + (acts - undone), x.fish(0, 3), (acts - undone) % 10);
            }
            edges.is("what is forgotten can not be undone", x.undo(), BowlState.STATE);
        }
        eachKindIsAnAct();
    }

    private void eachKindIsAnAct() {
        BowlState x = Due.of("GB9B9F000L00");
        x.hour();
        edges.is("an hour", x.count(8), 1);
        x.move(0, 1);
        edges.is("moved", x.count(8), 2);
        x.water(0);
        edges.is("water, of nobody", x.count(8), 3);
        x.tell(0, 0);
        edges.is("told what it knows", x.count(8), 4);
        x.duty(0);
        edges.is("duty", x.count(8), 5);
    }

    private void rowOfRefused() {
        edges.terms("What is refused changes nothing.");
        BowlState x = Due.of("GB9B9F000F110L00");
        for (int act = 0; act < 14; act++) {
            x.tell(0, act % 10);
        }
        x.move(0, 0);
        x.move(2, 0);
        x.water(2);
        x.tell(0, 10);
        x.duty(1);
        edges.is("of a full row nothing is forgotten", x.count(8), 14);
        for (int left = 13; left >= 0; left--) {
            edges.is("undo", x.undo(), left);
        }
        edges.is("the first one was there", x.fish(0, 3), 0);
    }

    private void lastUndone() {
        edges.terms("the last one can be undone.");
        BowlState x = Due.of("GB4B2F050F110F023L02L10");
        x.hour();
        x.undo();
        edges.is("an hour: the hour", x.count(4), 0);
        edges.fishHas("an hour", x, 1, 1, 2);
        edges.fishHas("an hour", x, 2, 2, 4);
        x.move(0, 1);
        x.undo();
        edges.is("moved: its bowl", x.fish(0, 0), 0);
        edges.fishHas("moved", x, 0, 5, 4);
        x.water(0);
        x.undo();
        edges.fishHas("water", x, 0, 5, 4);
        edges.fishHas("water", x, 2, 2, 4);
        x.hour();
        x.tell(1, 7);
        x.undo();
        edges.fishHas("told", x, 1, 1, 2);
        x.duty(1);
        x.undo();
        edges.is("duty", x.count(7), 3);
        edges.is("the hour is left", x.undo(), 0);
        lastUndoneOfFive();
    }

    private void lastUndoneOfFive() {
        BowlState x = Due.of("GB9B1B2F000F010F020F130F140L00L10L00L10");
        for (int fish = 0; fish < 5; fish++) {
            int bowl = x.fish(fish, 0);
            int left = x.fish(fish, 4);
            x.move(fish, 2);
            x.undo();
            edges.is("not moved, " + fish, x.fish(fish, 0), bowl);
            edges.fishHas("not moved", x, fish, fish, left);
            x.tell(fish, 9);
            x.undo();
            edges.fishHas("not told", x, fish, fish, left);
            x.water(bowl);
            x.undo();
            edges.fishHas("no water", x, fish, fish, left);
        }
        for (int lip = 0; lip < 4; lip++) {
            x.duty(lip);
            x.undo();
            edges.is("not ill, " + lip, x.count(7), 15);
        }
    }

    private void undoAnswer() {
        edges.promise(14, "The last ACT is undone: how many are left.");
        BowlState x = new BowlState();
        for (int act = 0; act < 15; act++) {
            x.hour();
        }
        for (int left = 13; left >= 0; left--) {
            edges.is("left", x.undo(), left);
            edges.is("the hour", x.count(4), left + 1);
            edges.is("the row", x.count(8), left);
        }
        x.hour();
        edges.is("one", x.undo(), 0);
    }

    private void undoState() {
        edges.promise(14, "STATE: there is none.");
        BowlState x = new BowlState();
        edges.is("at first", x.undo(), BowlState.STATE);
        x.hour();
        edges.is("one", x.undo(), 0);
        edges.is("none", x.undo(), BowlState.STATE);
        edges.is("the hour stays", x.count(4), 0);
        edges.is("the row stays", x.count(8), 0);
        x.hour();
        x.keep(0);
        x.again(0);
        edges.is("gone on from", x.undo(), BowlState.STATE);
        x.hour();
        Due.write(x, "G");
        x.hall();
        edges.is("a new hall", x.undo(), BowlState.STATE);
    }
}
