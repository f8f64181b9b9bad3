/** The edges of the text and of the hall that it tells: the first part of the terms, promises 1 to 5. */
public final class TextEdgesTest {
    /** As many bowls, fish and lips as may be: 43 letters. */
    static final String LONGEST = "GB1B2B3B4B5F000F011F022F133F190L00L11L22L33";

    private final Edges edges;

    TextEdgesTest(Edges edges) {
        this.edges = edges;
    }

    public static void main(String[] args) {
        Edges edges = new Edges();
        new TextEdgesTest(edges).all();
        edges.end();
    }

    void all() {
        nothingAtFirst();
        newObject();
        lettersTaken();
        lettersOutside();
        lettersFull();
        mostLetters();
        wiped();
        partsNoneOrMore();
        mostBowls();
        mostFish();
        mostLips();
        numbersEachForItself();
        hoursOfBowl();
        bowlOfFishToldAhead();
        roomForFish();
        firstSecret();
        kind();
        bowlOfLipToldAhead();
        error();
        faultWhateverCameBehind();
        faultLengthSetAside();
        faultNotAtItsEnd();
        faultNone();
        faultAnswer();
        hallAnswer();
        hallEmptiesAndKeeps();
        hallRefused();
        madeAnew();
    }

    private static BowlState written(String text) {
        BowlState x = new BowlState();
        Due.write(x, text);
        return x;
    }

    private void nothingAtFirst() {
        edges.terms("At first there is nothing.");
        BowlState x = new BowlState();
        edges.is("fault", x.fault(), 0);
        edges.is("hall", x.hall(), BowlState.STATE);
        edges.is("wipe", x.wipe(), 0);
        edges.is("crew", x.crew(), 0);
        edges.is("an hour", x.judge(4, 0), BowlState.NONE);
        edges.is("no doing of anybody", x.judge(1, 200), 0);
        edges.is("decades", x.decades(30), 0);
        edges.is("hour", x.hour(), 0);
    }

    private void newObject() {
        edges.promise(1, "Nothing, nobody.");
        BowlState x = new BowlState();
        for (int what = 0; what <= 9; what++) {
            edges.is("count(" + what + ")", x.count(what), 0);
        }
        for (int i = 0; i <= 5; i++) {
            edges.is("bowl " + i, x.bowl(i, 0), BowlState.UNKNOWN);
            edges.is("fish " + i, x.fish(i, 0), BowlState.UNKNOWN);
            edges.is("lip " + i, x.lip(i, 0), BowlState.UNKNOWN);
        }
        edges.is("undo", x.undo(), BowlState.STATE);
        edges.is("again 0", x.again(0), BowlState.STATE);
        edges.is("again 1", x.again(1), BowlState.STATE);
        edges.is("unsay", x.unsay(), 0);
        edges.is("seed", x.seed(1), 0);
    }

    private void lettersTaken() {
        edges.promise(2, "A letter (0 to 255)");
        BowlState x = new BowlState();
        int[] letters = {0, 1, 127, 128, 254, 255};
        for (int i = 0; i < letters.length; i++) {
            edges.is("write " + letters[i], x.write(letters[i]), i + 1);
        }
        edges.is("they are there", x.count(0), letters.length);
        edges.promise(2, "how long it is");
        BowlState y = new BowlState();
        for (int i = 1; i <= 48; i++) {
            edges.is("write the letter " + i, y.write(255), i);
            edges.is("count of letter " + i, y.count(0), i);
        }
    }

    private void lettersOutside() {
        edges.promise(2, "OUTSIDE");
        int[] letters = {Integer.MIN_VALUE, -256, -185, -1, 256, 256 + 'G', 65536 + 'G', Integer.MAX_VALUE};
        BowlState x = new BowlState();
        for (int letter : letters) {
            edges.is("write " + letter, x.write(letter), BowlState.OUTSIDE);
            edges.is("letters behind " + letter, x.count(0), 0);
        }
        edges.is("the first letter", x.write('G'), 1);
        for (int letter : letters) {
            edges.is("write " + letter, x.write(letter), BowlState.OUTSIDE);
        }
        edges.is("nothing came behind it", x.fault(), BowlState.NONE);
    }

    private void lettersFull() {
        edges.promise(2, "FULL: there are 48");
        BowlState x = written(LONGEST + "XXXX");
        edges.is("47 letters", x.count(0), 47);
        edges.is("the 48th", x.write('X'), 48);
        for (int letter = 0; letter <= 255; letter += 51) {
            edges.is("the 49th, " + letter, x.write(letter), BowlState.FULL);
        }
        edges.is("there are 48", x.count(0), 48);
        edges.is("with the fault that was there", x.fault(), 43);
        edges.is("wipe", x.wipe(), 48);
        edges.is("not full any more", x.write('G'), 1);
    }

    private void mostLetters() {
        edges.terms("THE TEXT is letters (48 at most)");
        BowlState x = new BowlState();
        for (int round = 0; round < 2; round++) {
            for (int i = 1; i <= 48; i++) {
                edges.is("letter " + i, x.write('G'), i);
            }
            edges.is("letter 49", x.write('G'), BowlState.FULL);
            edges.is("letters", x.count(0), 48);
            edges.is("wipe", x.wipe(), 48);
        }
    }

    private void wiped() {
        edges.promise(3, "THE TEXT is empty: how long it was.");
        BowlState x = new BowlState();
        edges.is("nothing is wiped", x.wipe(), 0);
        x.write('G');
        edges.is("one letter is", x.wipe(), 1);
        edges.is("it is empty", x.count(0), 0);
        edges.is("it is empty, fault", x.fault(), 0);
        edges.is("it is empty, again", x.wipe(), 0);
        for (int i = 0; i < 48; i++) {
            x.write('G');
        }
        edges.is("48 are", x.wipe(), 48);
        Due.write(x, "GB1");
        edges.is("hall", x.hall(), 100);
        edges.is("its text", x.wipe(), 3);
        edges.is("the hall stays", x.count(1), 1);
        edges.is("another text begins", x.write('G'), 1);
        edges.is("what was wiped does not come behind it", x.hall(), 0);
    }

    private void partsNoneOrMore() {
        edges.terms("A HALL is a TEXT: G, then PARTS, none or more");
        edges.faultIs("", 0);
        edges.isHall("G");
        edges.isHall("GB1");
        edges.isHall(LONGEST);
        for (int letter = 0; letter <= 255; letter++) {
            edges.faultIs(String.valueOf((char) letter), letter == 'G' ? BowlState.NONE : 0);
        }
        for (int letter = 0; letter <= 255; letter++) {
            edges.faultIs("GB1" + (char) letter, "BFL".indexOf(letter) >= 0 ? 4 : 3);
        }
        edges.is("no parts", written("G").hall(), 0);
    }

    private void mostBowls() {
        edges.terms("BOWLS (5 at most)");
        edges.isHall("GB1B1B1B1");
        edges.isHall("GB1B1B1B1B1");
        edges.faultIs("GB1B1B1B1B1B", 11);
        edges.faultIs("GB1B1B1B1B1B1", 11);
        edges.faultIs("GB1B1B1B1B1L00B1", 14);
        edges.is("5 are taken", written("GB1B1B1B1B1").hall(), 500);
    }

    private void mostFish() {
        edges.terms("FISH (5 at most)");
        edges.isHall("GB1B1F000F000F000F100");
        edges.isHall("GB1B1F000F000F000F100F100");
        edges.faultIs("GB1B1F000F000F000F100F100F", 25);
        edges.faultIs("GB1B1F000F000F000F100F100F100", 25);
        edges.faultIs("GB1B1F000F000F000F100F100B1F200", 27);
        edges.is("5 are taken", written("GB1B1F000F000F000F100F100").hall(), 250);
    }

    private void mostLips() {
        edges.terms("LIPS (4 at most)");
        edges.isHall("GB1L00L00L00");
        edges.isHall("GB1L00L00L00L00");
        edges.faultIs("GB1L00L00L00L00L", 15);
        edges.faultIs("GB1L00L00L00L00L00", 15);
        edges.faultIs("GB1L00L00L00L00B1L10", 17);
        edges.is("4 are taken", written("GB1L00L00L00L00").hall(), 104);
    }

    private void numbersEachForItself() {
        edges.terms("are numbered as they are told, each for itself");
        BowlState x = written("GB7L03F010B8L12F121B9F230L21");
        edges.is("hall", x.hall(), 333);
        for (int i = 0; i < 3; i++) {
            edges.is("bowl " + i, x.bowl(i, 0), 7 + i);
            edges.is("fish " + i, x.fish(i, 1), 1 + i);
            edges.is("fish " + i + " is in", x.fish(i, 0), i);
            edges.is("lip " + i, x.lip(i, 1), 3 - i);
            edges.is("lip " + i + " begins", x.lip(i, 0), i);
        }
    }

    private void hoursOfBowl() {
        edges.terms("a BOWL that takes t (1 to 9) HOURS to go round");
        for (int letter = 0; letter <= 255; letter++) {
            boolean taken = letter >= '1' && letter <= '9';
            edges.faultIs("GB" + (char) letter, taken ? BowlState.NONE : 2);
        }
        edges.faultIs("GB0", 2);
        edges.is("hall of 1", written("GB1").hall(), 100);
        BowlState x = Due.of("GB1B9");
        edges.is("takes 1", x.bowl(0, 0), 1);
        edges.is("takes 9", x.bowl(1, 0), 9);
        edges.faultIs("GB10", 3);
    }

    private void bowlOfFishToldAhead() {
        edges.terms("a FISH in BOWL b (told ahead");
        edges.faultIs("GF", 1);
        edges.faultIs("GF000B1", 1);
        String bowls = "G";
        for (int there = 1; there <= 5; there++) {
            bowls += "B1";
            for (int letter = 0; letter <= 255; letter++) {
                boolean taken = letter >= '0' && letter < '0' + there;
                edges.faultIs(bowls + "F" + (char) letter, bowls.length() + (taken ? 2 : 1));
            }
        }
        edges.faultIs("GB1F100B1", 4);
        edges.isHall("GB1B1F100");
    }

    private void roomForFish() {
        edges.terms("in which 2 or fewer are)");
        edges.isHall("GB1B1F000");
        edges.isHall("GB1B1F000F000");
        edges.isHall("GB1B1F000F000F000");
        edges.faultIs("GB1B1F000F000F000F0", 18);
        edges.faultIs("GB1B1F000F000F000F000", 18);
        edges.isHall("GB1B1F000F000F000F100");
        edges.faultIs("GB1B1F100F000F100F100F1", 22);
        edges.isHall("GB1B1F100F000F100F100F000");
        edges.faultIs("GB1F000F000F000F", 15);
        edges.faultIs("GB1F000F000F000B1F", 18);
        edges.is("three are taken", Due.of("GB1F000F000F000").bowl(0, 1), 7);
    }

    private void firstSecret() {
        edges.terms("of FIRST secret s (0 to 9)");
        for (int letter = 0; letter <= 255; letter++) {
            boolean taken = letter >= '0' && letter <= '9';
            edges.faultIs("GB1F0" + (char) letter, taken ? 6 : 5);
        }
        edges.faultIs("GB1F0/0", 5);
        edges.faultIs("GB1F0:0", 5);
        BowlState x = Due.of("GB1F000F090");
        edges.is("0 is taken", x.fish(0, 1), 0);
        edges.is("9 is taken", x.fish(1, 1), 9);
    }

    private void kind() {
        edges.terms("of KIND k: 0 PLAIN, 1 OLD, 2 FRY, 3 ECHO");
        for (int letter = 0; letter <= 255; letter++) {
            boolean taken = letter >= '0' && letter <= '3';
            edges.faultIs("GB1F00" + (char) letter, taken ? BowlState.NONE : 6);
        }
        BowlState x = Due.of("GB2B2F000F011F002F113");
        for (int kind = 0; kind <= 3; kind++) {
            edges.is("kind " + kind, x.fish(kind, 2), kind);
        }
        x.hour();
        x.hour();
        edges.is("only the old one knows anything then", x.count(5), 2);
    }

    private void bowlOfLipToldAhead() {
        edges.terms("a LIP that begins at BOWL b (told ahead)");
        edges.faultIs("GL", 1);
        edges.faultIs("GL00B1", 1);
        String bowls = "G";
        for (int there = 1; there <= 5; there++) {
            bowls += "B1";
            for (int letter = 0; letter <= 255; letter++) {
                boolean taken = letter >= '0' && letter < '0' + there;
                edges.faultIs(bowls + "L" + (char) letter, bowls.length() + (taken ? 2 : 1));
            }
        }
        edges.faultIs("GB1L10B1", 4);
        edges.isHall("GB1B1L10");
        edges.isHall("GB1F000F000F000L00L00L00L00");
    }

    private void error() {
        edges.terms("of ERROR e (0 to 3)");
        for (int letter = 0; letter <= 255; letter++) {
            boolean taken = letter >= '0' && letter <= '3';
            edges.faultIs("GB1L0" + (char) letter, taken ? BowlState.NONE : 5);
        }
        BowlState x = Due.of("GB1L00L03");
        edges.is("0 is taken", x.lip(0, 1), 0);
        edges.is("3 is taken", x.lip(1, 1), 3);
    }

    private void faultWhateverCameBehind() {
        edges.terms("the place of the first letter by which THE TEXT can be no HALL, whatever came behind it");
        String[] texts = {"X", "GG", "GF", "GL", "GB0", "GB1F1", "GB1F0X", "GB1F004", "GB1L1", "GB1L04", "GB11",
            "GB1B1B1B1B1B", "GB1F000F000F000F", "GB1L00L00L00L00L"};
        for (String text : texts) {
            int place = text.length() - 1;
            StringBuilder longer = new StringBuilder(text);
            edges.faultIs(text, place);
            while (longer.length() < 48) {
                longer.append("GB1F000L00X0".charAt(longer.length() % 12));
                edges.faultIs(longer.toString(), place);
            }
        }
        edges.faultIs("GB0B0", 2);
        edges.faultIs("XG", 0);
    }

    private void faultLengthSetAside() {
        edges.terms("(its length set aside)");
        BowlState x = written(LONGEST + "L33L3");
        edges.is("48 letters, a lip too many", x.fault(), 43);
        x = written("G" + "X".repeat(47));
        edges.is("48 letters, a fault at once", x.fault(), 1);
        x = written("GB1B2B3B4B5L00F000L00F000L00F100L00F100F20");
        edges.is("42 letters, not at its end", x.fault(), 42);
        x.write('0');
        edges.is("43 letters, at its end", x.fault(), BowlState.NONE);
        x.write('B');
        edges.is("44 letters", x.fault(), 43);
    }

    private void faultNotAtItsEnd() {
        edges.terms("its length, if it is only not at its end");
        int[] ends = {1, 3, 5, 7, 9, 11, 15, 19, 23, 27, 31, 34, 37, 40, 43};
        for (int length = 0, end = 0; length <= LONGEST.length(); length++) {
            boolean isEnd = length == ends[end];
            edges.faultIs(LONGEST.substring(0, length), isEnd ? BowlState.NONE : length);
            end += isEnd ? 1 : 0;
        }
    }

    private void faultNone() {
        edges.terms("NONE: none. At first");
        edges.isHall("G");
        edges.isHall(LONGEST);
        edges.isHall("GB1B2B3B4B5L33L33L33L33F493F493F493F083F083");
        edges.promise(5, "THE TEXT is THE HALL");
        edges.is("least", written("G").hall(), 0);
        edges.is("most", written(LONGEST).hall(), 554);
    }

    private void faultAnswer() {
        edges.promise(4, "FAULT; NONE.");
        edges.is("of nothing", new BowlState().fault(), 0);
        edges.is("none", written("G").fault(), BowlState.NONE);
        edges.is("at the first letter", written("g").fault(), 0);
        edges.is("at the last letter", written("GB0").fault(), 2);
        edges.is("behind the last letter", written("GB").fault(), 2);
        BowlState x = written("GB1");
        edges.is("none", x.fault(), BowlState.NONE);
        x.write('F');
        edges.is("then one", x.fault(), 4);
        x.write('0');
        x.write('0');
        x.write('0');
        edges.is("then none", x.fault(), BowlState.NONE);
        edges.is("nothing became a hall by it", x.count(1), 0);
    }

    private void hallAnswer() {
        edges.promise(5, "100 times BOWLS, 10 times FISH, and LIPS");
        String[] texts = {"G", "GB1", "GB1F000", "GB1L00", "GB1B1B1B1B1", "GB1B1F000F000F000F100F100",
            "GB1L00L00L00L00", LONGEST};
        int[] answers = {0, 100, 110, 101, 500, 250, 104, 554};
        BowlState x = new BowlState();
        for (int i = 0; i < texts.length; i++) {
            Due.write(x, texts[i]);
            edges.is("hall of " + texts[i], x.hall(), answers[i]);
            edges.is("once more", x.hall(), answers[i]);
            edges.is("its text stays", x.count(0), texts[i].length());
        }
    }

    private void hallEmptiesAndKeeps() {
        edges.promise(5, "(THE ROW of ACTS is empty, what was kept is gone; SAID, THE SEED stay)");
        BowlState x = Due.of("GB3F010L00");
        for (int i = 0; i < 14; i++) {
            x.hour();
        }
        x.keep(0);
        x.keep(1);
        for (int i = 0; i < 6; i++) {
            x.say(0, 7);
        }
        x.seed(Long.MIN_VALUE);
        edges.is("hall", x.hall(), 111);
        edges.is("the row", x.count(8), 0);
        edges.is("undo", x.undo(), BowlState.STATE);
        edges.is("slot 0", x.again(0), BowlState.STATE);
        edges.is("slot 1", x.again(1), BowlState.STATE);
        edges.is("said", x.count(9), 6);
        edges.is("what was said", x.firsts(0), 1 << 7);
        edges.is("the seed", x.seed(0), Long.MIN_VALUE);
    }

    private void hallRefused() {
        edges.promise(5, "STATE: a FAULT");
        String[] texts = {"", "g", "GB", "GB0", "GB1F00", LONGEST + "L"};
        for (String text : texts) {
            BowlState x = Due.of("GB4F051L02");
            x.hour();
            x.keep(1);
            Due.write(x, text);
            edges.is("hall of " + text, x.hall(), BowlState.STATE);
            edges.is("bowls", x.count(1), 1);
            edges.is("fish", x.fish(0, 1), 5);
            edges.is("lips", x.lip(0, 1), 2);
            edges.is("the hour", x.count(4), 1);
            edges.is("the text", x.count(0), text.length());
            edges.is("the row", x.undo(), 0);
            edges.is("what was kept", x.again(1), 1);
        }
        edges.is("no fault, not refused", written("G").hall(), 0);
    }

    private void madeAnew() {
        edges.terms("When THE HALL is made anew, each FISH KNOWS its FIRST secret, LEFT is how long it LASTS, "
            + "all LIPS are on DUTY, THE HOUR is 0.");
        BowlState x = Due.of("GB1B9F000F091F192F183F170L03L13L03L13");
        for (int lip = 0; lip < 4; lip++) {
            x.duty(lip);
        }
        x.water(0);
        x.water(1);
        x.tell(1, 3);
        x.move(1, 1);
        x.hour();
        edges.is("hall", x.hall(), 254);
        edges.is("the hour", x.count(4), 0);
        edges.is("on duty", x.count(7), 15);
        edges.is("knowing", x.count(5), 31);
        edges.is("knowing their first", x.count(6), 31);
        edges.fishHas("anew", x, 0, 0, 1);
        edges.fishHas("anew", x, 1, 9, 1);
        edges.fishHas("anew", x, 2, 9, 4);
        edges.fishHas("anew", x, 3, 8, 9);
        edges.fishHas("anew", x, 4, 7, 9);
        edges.is("where it was told to be", x.fish(1, 0), 0);
    }
}
