/**
 * A ministry that keeps its secrets in goldfish: who knows what, for how long, and what a lip is worth.
 * The public methods look at what they are given and refuse; what they ask for is done by the classes inside.
 */
public final class BowlState {
    public static final int UNKNOWN = -1, OUTSIDE = -2, STATE = -3, FULL = -4, NONE = -9;

    private static final int MOST_LETTERS = 48, MOST_BOWLS = 5, MOST_FISH = 5, MOST_LIPS = 4, MOST_IN_BOWL = 3;
    private static final int OLD = 1, FRY = 2, ECHO = 3;
    private static final int MOST_ACTS = 14, SLOT_COUNT = 2, MOST_SAYINGS = 6;
    private static final int FARTHEST = 20, WATCHED = 12, LONELY = 2;
    private static final int MOST_DOINGS = 4, MOST_DRAWS = 30;
    private static final long SEED_TIMES = 6364136223846793005L, SEED_MORE = 1442695040888963407L;
    private static final int[] FACTORIALS = {1, 1, 2, 6, 24};

    private final int[] text = new int[MOST_LETTERS];
    private int letters;
    private final Reader reader = new Reader();
    private final Plan plan = new Plan();
    private final Moment now = new Moment(plan);
    private final Acts acts = new Acts(plan);
    private final Sayings sayings = new Sayings();
    private final Outlook outlook = new Outlook(plan, now);
    private final Moment[] slots = new Moment[SLOT_COUNT];
    private final boolean[] slotTaken = new boolean[SLOT_COUNT];
    private long sown;

    public BowlState() {
        for (int slot = 0; slot < SLOT_COUNT; slot++) {
            slots[slot] = new Moment(plan);
        }
    }

    // ---- the hall

    public int write(int letter) {
        if (letter < 0 || letter > 255) {
            return OUTSIDE;
        }
        if (letters >= MOST_LETTERS) {
            return FULL;
        }
        text[letters] = letter;
        letters++;
        return letters;
    }

    public int wipe() {
        int was = letters;
        letters = 0;
        return was;
    }

    public int fault() {
        return reader.firstFault(text, letters);
    }

    public int hall() {
        if (reader.firstFault(text, letters) != NONE) {
            return STATE;
        }
        plan.become(reader.draft);
        now.begin();
        acts.forgetAll();
        for (int slot = 0; slot < SLOT_COUNT; slot++) {
            slotTaken[slot] = false;
        }
        return 100 * plan.bowls + 10 * plan.fishes + plan.lips;
    }

    public int bowl(int bowl, int what) {
        if (!plan.hasBowl(bowl)) {
            return UNKNOWN;
        }
        switch (what) {
            case 0:
                return plan.hours[bowl];
            case 1:
                return now.fishIn(bowl);
            case 2:
                return now.lipsNextAt(bowl);
            default:
                return OUTSIDE;
        }
    }

    public int fish(int fish, int what) {
        if (!plan.hasFish(fish)) {
            return UNKNOWN;
        }
        switch (what) {
            case 0:
                return now.place[fish];
            case 1:
                return plan.first[fish];
            case 2:
                return plan.kind[fish];
            case 3:
                return now.known[fish];
            case 4:
                return now.left[fish];
            case 5:
                return now.lasts(fish);
            default:
                return OUTSIDE;
        }
    }

    public int lip(int lip, int what) {
        if (!plan.hasLip(lip)) {
            return UNKNOWN;
        }
        switch (what) {
            case 0:
                return plan.post[lip];
            case 1:
                return plan.error[lip];
            case 2:
                return now.isOnDuty(lip) ? 1 : 0;
            default:
                return OUTSIDE;
        }
    }

    // ---- acts

    public int hour() {
        acts.remember(now);
        now.passHour();
        return Integer.bitCount(now.knowing());
    }

    public int move(int fish, int bowl) {
        if (!plan.hasFish(fish) || !plan.hasBowl(bowl)) {
            return UNKNOWN;
        }
        if (!now.canMove(fish, bowl)) {
            return STATE;
        }
        acts.remember(now);
        int from = now.place[fish];
        now.put(fish, bowl);
        return from;
    }

    public int water(int bowl) {
        if (!plan.hasBowl(bowl)) {
            return UNKNOWN;
        }
        acts.remember(now);
        return now.changeWater(bowl);
    }

    public int tell(int fish, int secret) {
        if (!plan.hasFish(fish)) {
            return UNKNOWN;
        }
        if (secret < 0 || secret > 9) {
            return OUTSIDE;
        }
        acts.remember(now);
        int knew = now.known[fish];
        now.learn(fish, secret);
        return knew;
    }

    public int duty(int lip) {
        if (!plan.hasLip(lip)) {
            return UNKNOWN;
        }
        acts.remember(now);
        now.turn(lip);
        return now.isOnDuty(lip) ? 1 : 0;
    }

    public int undo() {
        if (acts.length == 0) {
            return STATE;
        }
        acts.takeBack(now);
        return acts.length;
    }

    // ---- what is kept

    public int ahead(int fish, int n) {
        if (!plan.hasFish(fish)) {
            return UNKNOWN;
        }
        if (n < 0 || n > FARTHEST) {
            return OUTSIDE;
        }
        return outlook.knownIn(fish, n);
    }

    public int lost(int fish) {
        return plan.hasFish(fish) ? outlook.lostIn(fish) : UNKNOWN;
    }

    public int crew() {
        return outlook.fewestLips();
    }

    public int keeps(int fish, int bowl) {
        if (!plan.hasFish(fish) || !plan.hasBowl(bowl)) {
            return UNKNOWN;
        }
        return outlook.keptIn(fish, bowl);
    }

    public int best(int fish) {
        return plan.hasFish(fish) ? outlook.bestBowl(fish) : UNKNOWN;
    }

    public int judge(int n, long row) {
        if (n < 1 || n > MOST_DOINGS || !hasFiguresAtMost(row, 3 * n)) {
            return OUTSIDE;
        }
        return outlook.firstWrong(n, row);
    }

    // ---- what it was

    public int say(int fish, int v) {
        if (!plan.hasFish(fish)) {
            return UNKNOWN;
        }
        if (v < 0 || v > 9) {
            return OUTSIDE;
        }
        return sayings.add(fish, v) ? sayings.length : FULL;
    }

    public int unsay() {
        int was = sayings.length;
        sayings.length = 0;
        return was;
    }

    public int firsts(int fish) {
        return plan.hasFish(fish) ? sayings.possibleFirsts(fish, plan) : UNKNOWN;
    }

    // ---- shares, rests, chances

    public int share(int lip, boolean upper) {
        return plan.hasLip(lip) ? outlook.shareOf(lip, upper) : UNKNOWN;
    }

    public int rests(int one, int other, int what) {
        if (!plan.hasFish(one) || !plan.hasFish(other)) {
            return UNKNOWN;
        }
        if (one == other || what < 0 || what > 1) {
            return OUTSIDE;
        }
        outlook.weighPairs(one, other);
        return what == 0 ? outlook.restCount() : outlook.firstRest();
    }

    public int ill(int fish, int n, int x, boolean upper) {
        if (!plan.hasFish(fish)) {
            return UNKNOWN;
        }
        if (n < 0 || n > FARTHEST || x < 0 || x > 10) {
            return OUTSIDE;
        }
        return outlook.chanceOfFirst(fish, n, x, upper);
    }

    public long seed(long v) {
        long was = sown;
        sown = v;
        return was;
    }

    public int decades(int m) {
        if (m < 1 || m > MOST_DRAWS) {
            return OUTSIDE;
        }
        outlook.startTrial();
        int together = 0;
        for (int time = 0; time < m; time++) {
            sown = sown * SEED_TIMES + SEED_MORE;
            together += outlook.draw((int) ((sown >>> 33) % 24));
        }
        return together;
    }

    // ---- slots

    public int keep(int slot) {
        if (slot < 0 || slot >= SLOT_COUNT) {
            return UNKNOWN;
        }
        slots[slot].become(now);
        slotTaken[slot] = true;
        return now.clock;
    }

    public int again(int slot) {
        if (slot < 0 || slot >= SLOT_COUNT) {
            return UNKNOWN;
        }
        if (!slotTaken[slot]) {
            return STATE;
        }
        now.become(slots[slot]);
        acts.forgetAll();
        return now.clock;
    }

    public int count(int what) {
        switch (what) {
            case 0:
                return letters;
            case 1:
                return plan.bowls;
            case 2:
                return plan.fishes;
            case 3:
                return plan.lips;
            case 4:
                return now.clock;
            case 5:
                return now.knowing();
            case 6:
                return now.knowingFirst();
            case 7:
                return now.onDuty;
            case 8:
                return acts.length;
            case 9:
                return sayings.length;
            default:
                return OUTSIDE;
        }
    }

    private static boolean hasFiguresAtMost(long row, int figures) {
        long rest = row;
        for (int figure = 0; figure < figures; figure++) {
            rest /= 10;
        }
        return row >= 0 && rest == 0;
    }

    /** What a HALL was told as; only another HALL changes it. */
    private static final class Plan {
        int bowls;
        int fishes;
        int lips;
        final int[] hours = new int[MOST_BOWLS];
        final int[] start = new int[MOST_FISH];
        final int[] first = new int[MOST_FISH];
        final int[] kind = new int[MOST_FISH];
        final int[] post = new int[MOST_LIPS];
        final int[] error = new int[MOST_LIPS];

        boolean hasBowl(int bowl) {
            return bowl >= 0 && bowl < bowls;
        }

        boolean hasFish(int fish) {
            return fish >= 0 && fish < fishes;
        }

        boolean hasLip(int lip) {
            return lip >= 0 && lip < lips;
        }

        void clear() {
            bowls = 0;
            fishes = 0;
            lips = 0;
        }

        void become(Plan other) {
            bowls = other.bowls;
            fishes = other.fishes;
            lips = other.lips;
            System.arraycopy(other.hours, 0, hours, 0, MOST_BOWLS);
            System.arraycopy(other.start, 0, start, 0, MOST_FISH);
            System.arraycopy(other.first, 0, first, 0, MOST_FISH);
            System.arraycopy(other.kind, 0, kind, 0, MOST_FISH);
            System.arraycopy(other.post, 0, post, 0, MOST_LIPS);
            System.arraycopy(other.error, 0, error, 0, MOST_LIPS);
        }

        boolean hasRoomAtStart(int bowl) {
            int there = 0;
            for (int fish = 0; fish < fishes; fish++) {
                if (start[fish] == bowl) {
                    there++;
                }
            }
            return hasBowl(bowl) && there < MOST_IN_BOWL;
        }

        boolean hasRoomAnywhere() {
            for (int bowl = 0; bowl < bowls; bowl++) {
                if (hasRoomAtStart(bowl)) {
                    return true;
                }
            }
            return false;
        }

        boolean addBowl(int takes) {
            if (bowls >= MOST_BOWLS) {
                return false;
            }
            hours[bowls] = takes;
            bowls++;
            return true;
        }

        boolean addFish(int bowl, int secret, int itsKind) {
            if (fishes >= MOST_FISH) {
                return false;
            }
            start[fishes] = bowl;
            first[fishes] = secret;
            kind[fishes] = itsKind;
            fishes++;
            return true;
        }

        boolean addLip(int bowl, int itsError) {
            if (lips >= MOST_LIPS) {
                return false;
            }
            post[lips] = bowl;
            error[lips] = itsError;
            lips++;
            return true;
        }
    }

    /** Takes a TEXT letter by letter, so that the first letter that cannot stand is the FAULT. */
    private static final class Reader {
        private static final int AHEAD_OF_ALL = 0, BETWEEN_PARTS = 1;

        final Plan draft = new Plan();
        /** The letter of the part that is open, or one of the two above. */
        private int part;
        private int figuresTaken;
        private int bowl;
        private int secret;

        int firstFault(int[] text, int length) {
            draft.clear();
            part = AHEAD_OF_ALL;
            for (int at = 0; at < length && at < text.length; at++) {
                if (!takes(text[at])) {
                    return at;
                }
            }
            return part == BETWEEN_PARTS ? NONE : length;
        }

        private boolean takes(int letter) {
            switch (part) {
                case AHEAD_OF_ALL:
                    part = BETWEEN_PARTS;
                    return letter == 'G';
                case BETWEEN_PARTS:
                    return opensPart(letter);
                default:
                    return takesFigure(letter - '0');
            }
        }

        private boolean opensPart(int letter) {
            part = letter;
            figuresTaken = 0;
            switch (letter) {
                case 'B':
                    return draft.bowls < MOST_BOWLS;
                case 'F':
                    return draft.fishes < MOST_FISH && draft.hasRoomAnywhere();
                case 'L':
                    return draft.lips < MOST_LIPS && draft.bowls > 0;
                default:
                    return false;
            }
        }

        private boolean takesFigure(int figure) {
            if (figure < 0 || figure > 9) {
                return false;
            }
            figuresTaken++;
            switch (part) {
                case 'B':
                    part = BETWEEN_PARTS;
                    return figure >= 1 && draft.addBowl(figure);
                case 'F':
                    return takesFishFigure(figure);
                default:
                    return takesLipFigure(figure);
            }
        }

        private boolean takesFishFigure(int figure) {
            if (figuresTaken == 1) {
                bowl = figure;
                return draft.hasRoomAtStart(figure);
            }
            if (figuresTaken == 2) {
                secret = figure;
                return true;
            }
            part = BETWEEN_PARTS;
            return figure <= ECHO && draft.addFish(bowl, secret, figure);
        }

        private boolean takesLipFigure(int figure) {
            if (figuresTaken == 1) {
                bowl = figure;
                return draft.hasBowl(figure);
            }
            part = BETWEEN_PARTS;
            return figure <= 3 && draft.addLip(bowl, figure);
        }
    }

    /** How things stand at one time: all that ACTS change and SLOTS keep. */
    private static final class Moment {
        private final Plan plan;
        final int[] place = new int[MOST_FISH];
        final int[] known = new int[MOST_FISH];
        final int[] left = new int[MOST_FISH];
        int onDuty;
        int clock;

        Moment(Plan plan) {
            this.plan = plan;
        }

        void begin() {
            for (int fish = 0; fish < plan.fishes; fish++) {
                place[fish] = plan.start[fish];
                learn(fish, plan.first[fish]);
            }
            onDuty = (1 << plan.lips) - 1;
            clock = 0;
        }

        void become(Moment other) {
            System.arraycopy(other.place, 0, place, 0, MOST_FISH);
            System.arraycopy(other.known, 0, known, 0, MOST_FISH);
            System.arraycopy(other.left, 0, left, 0, MOST_FISH);
            onDuty = other.onDuty;
            clock = other.clock;
        }

        boolean isOnDuty(int lip) {
            return (onDuty & (1 << lip)) != 0;
        }

        void turn(int lip) {
            onDuty ^= 1 << lip;
        }

        int lasts(int fish) {
            int hours = plan.hours[place[fish]];
            return plan.kind[fish] == FRY && hours > 1 ? hours / 2 : hours;
        }

        int knowing() {
            int bits = 0;
            for (int fish = 0; fish < plan.fishes; fish++) {
                if (known[fish] != NONE) {
                    bits |= 1 << fish;
                }
            }
            return bits;
        }

        int knowingFirst() {
            int bits = 0;
            for (int fish = 0; fish < plan.fishes; fish++) {
                if (known[fish] == plan.first[fish]) {
                    bits |= 1 << fish;
                }
            }
            return bits;
        }

        int fishIn(int bowl) {
            int bits = 0;
            for (int fish = 0; fish < plan.fishes; fish++) {
                if (place[fish] == bowl) {
                    bits |= 1 << fish;
                }
            }
            return bits;
        }

        int lipsNextAt(int bowl) {
            int bits = 0;
            for (int lip = 0; lip < plan.lips; lip++) {
                if (roundOf(lip) == bowl) {
                    bits |= 1 << lip;
                }
            }
            return bits;
        }

        private int roundOf(int lip) {
            return plan.bowls > 0 ? Math.floorMod(plan.post[lip] + clock, plan.bowls) : NONE;
        }

        boolean canMove(int fish, int bowl) {
            return place[fish] != bowl && Integer.bitCount(fishIn(bowl)) < MOST_IN_BOWL;
        }

        /** Room is not looked at, for some questions set it aside; into its own bowl nothing changes. */
        void put(int fish, int bowl) {
            place[fish] = bowl;
            left[fish] = Math.min(left[fish], lasts(fish));
        }

        int changeWater(int bowl) {
            int forgot = 0;
            for (int fish = 0; fish < plan.fishes; fish++) {
                if (place[fish] == bowl && plan.kind[fish] != OLD && known[fish] != NONE) {
                    forget(fish);
                    forgot++;
                }
            }
            return forgot;
        }

        private void forget(int fish) {
            known[fish] = NONE;
            left[fish] = 0;
        }

        void learn(int fish, int secret) {
            known[fish] = secret;
            left[fish] = lasts(fish);
        }

        void passHour() {
            fade();
            for (int lip = 0; lip < plan.lips; lip++) {
                if (isOnDuty(lip)) {
                    goRound(lip);
                }
            }
            for (int fish = 0; fish < plan.fishes; fish++) {
                if (plan.kind[fish] == ECHO) {
                    hearOthers(fish);
                }
            }
            clock++;
        }

        private void fade() {
            for (int fish = 0; fish < plan.fishes; fish++) {
                if (known[fish] != NONE && plan.kind[fish] != OLD) {
                    left[fish]--;
                    if (left[fish] <= 0) {
                        forget(fish);
                    }
                }
            }
        }

        private void goRound(int lip) {
            int bowl = roundOf(lip);
            for (int fish = 0; fish < plan.fishes; fish++) {
                if (place[fish] == bowl) {
                    if (known[fish] == NONE) {
                        known[fish] = (plan.first[fish] + plan.error[lip]) % 10;
                    }
                    left[fish] = lasts(fish);
                }
            }
        }

        private void hearOthers(int echo) {
            int sum = 0;
            boolean heard = false;
            for (int fish = 0; fish < plan.fishes; fish++) {
                if (fish != echo && place[fish] == place[echo] && known[fish] != NONE) {
                    sum += known[fish];
                    heard = true;
                }
            }
            if (heard) {
                learn(echo, sum % 10);
            }
        }
    }

    /** THE ROW of ACTS, each as the Moment ahead of it. */
    private static final class Acts {
        private final Moment[] row = new Moment[MOST_ACTS];
        int length;

        Acts(Plan plan) {
            for (int act = 0; act < MOST_ACTS; act++) {
                row[act] = new Moment(plan);
            }
        }

        void forgetAll() {
            length = 0;
        }

        void remember(Moment moment) {
            if (length >= MOST_ACTS) {
                forgetFirst();
            }
            row[length].become(moment);
            length++;
        }

        /** The Moment of the first one goes to the end, to be used again. */
        private void forgetFirst() {
            Moment first = row[0];
            for (int act = 1; act < MOST_ACTS; act++) {
                row[act - 1] = row[act];
            }
            row[MOST_ACTS - 1] = first;
            length = MOST_ACTS - 1;
        }

        void takeBack(Moment moment) {
            if (length > 0) {
                length--;
                moment.become(row[length]);
            }
        }
    }

    /** What was SAID; it outlives a HALL. */
    private static final class Sayings {
        private final int[] speaker = new int[MOST_SAYINGS];
        private final int[] said = new int[MOST_SAYINGS];
        int length;

        boolean add(int fish, int secret) {
            if (length >= MOST_SAYINGS) {
                return false;
            }
            speaker[length] = fish;
            said[length] = secret;
            length++;
            return true;
        }

        int possibleFirsts(int fish, Plan plan) {
            int bits = 0;
            for (int first = 0; first <= 9; first++) {
                if (fits(fish, first, plan)) {
                    bits |= 1 << first;
                }
            }
            return bits;
        }

        private boolean fits(int fish, int first, Plan plan) {
            for (int saying = 0; saying < length; saying++) {
                if (speaker[saying] == fish && !mayCome(first, said[saying], plan)) {
                    return false;
                }
            }
            return true;
        }

        private static boolean mayCome(int first, int secret, Plan plan) {
            for (int lip = 0; lip < plan.lips; lip++) {
                if ((first + plan.error[lip]) % 10 == secret) {
                    return true;
                }
            }
            return false;
        }
    }

    /** Questions about what would be: all is tried on a Moment of its own, so that nothing changes. */
    private static final class Outlook {
        private final Plan plan;
        private final Moment now;
        private final Moment trial;
        /** Behind how many of the hours watched each fish knew anything. */
        private final int[] kept = new int[MOST_FISH];
        /** Of a pair of bowls (the one's times MOST_BOWLS, and the other's) what each of two fish has. */
        private final int[] oneHas = new int[MOST_BOWLS * MOST_BOWLS];
        private final int[] otherHas = new int[MOST_BOWLS * MOST_BOWLS];

        Outlook(Plan plan, Moment now) {
            this.plan = plan;
            this.now = now;
            this.trial = new Moment(plan);
        }

        void startTrial() {
            trial.become(now);
        }

        private void passHours(int n) {
            for (int hour = 0; hour < n; hour++) {
                trial.passHour();
            }
        }

        private void watch() {
            for (int fish = 0; fish < plan.fishes; fish++) {
                kept[fish] = 0;
            }
            for (int hour = 0; hour < WATCHED; hour++) {
                trial.passHour();
                for (int fish = 0; fish < plan.fishes; fish++) {
                    if (trial.known[fish] != NONE) {
                        kept[fish]++;
                    }
                }
            }
        }

        int knownIn(int fish, int n) {
            startTrial();
            passHours(n);
            return trial.known[fish];
        }

        int lostIn(int fish) {
            startTrial();
            for (int hour = 0; hour <= FARTHEST; hour++) {
                if (trial.known[fish] == NONE) {
                    return hour;
                }
                trial.passHour();
            }
            return NONE;
        }

        int fewestLips() {
            int fewest = NONE;
            for (int lips = 0; lips < 1 << plan.lips; lips++) {
                boolean fewer = fewest == NONE || Integer.bitCount(lips) < Integer.bitCount(fewest);
                if (fewer && nothingIsLostBy(lips)) {
                    fewest = lips;
                }
            }
            return fewest;
        }

        private boolean nothingIsLostBy(int lips) {
            startTrial();
            trial.onDuty = lips;
            watch();
            for (int fish = 0; fish < plan.fishes; fish++) {
                if (kept[fish] < WATCHED) {
                    return false;
                }
            }
            return true;
        }

        int keptIn(int fish, int bowl) {
            startTrial();
            trial.put(fish, bowl);
            watch();
            return kept[fish];
        }

        int bestBowl(int fish) {
            int best = 0;
            int most = -1;
            for (int bowl = 0; bowl < plan.bowls; bowl++) {
                int here = keptIn(fish, bowl);
                if (here > most) {
                    most = here;
                    best = bowl;
                }
            }
            return best;
        }

        int firstWrong(int n, long row) {
            startTrial();
            for (int at = 0; at < n; at++) {
                if (!happens(doingAheadOf(n - 1 - at, row))) {
                    return at;
                }
            }
            return NONE;
        }

        private static int doingAheadOf(int later, long row) {
            long rest = row;
            for (int doing = 0; doing < later; doing++) {
                rest /= 1000;
            }
            return (int) (rest % 1000);
        }

        private boolean happens(int doing) {
            int who = doing / 10 % 10;
            int what = doing % 10;
            switch (doing / 100) {
                case 0:
                    return doing == 0 && hourPasses();
                case 1:
                    return isMoved(who, what);
                case 2:
                    return who == 0 && waterIsChanged(what);
                case 3:
                    return isTold(who, what);
                case 4:
                    return who == 0 && dutyTurns(what);
                case 5:
                    return plan.hasFish(who) && trial.known[who] == what;
                default:
                    return false;
            }
        }

        private boolean hourPasses() {
            trial.passHour();
            return true;
        }

        private boolean isMoved(int fish, int bowl) {
            boolean can = plan.hasFish(fish) && plan.hasBowl(bowl) && trial.canMove(fish, bowl);
            if (can) {
                trial.put(fish, bowl);
            }
            return can;
        }

        private boolean waterIsChanged(int bowl) {
            boolean can = plan.hasBowl(bowl);
            if (can) {
                trial.changeWater(bowl);
            }
            return can;
        }

        private boolean isTold(int fish, int secret) {
            boolean can = plan.hasFish(fish);
            if (can) {
                trial.learn(fish, secret);
            }
            return can;
        }

        private boolean dutyTurns(int lip) {
            boolean can = plan.hasLip(lip);
            if (can) {
                trial.turn(lip);
            }
            return can;
        }

        /**
         * Orders are not gone through one by one: of n lips, as many have the lips of a set ahead of this one
         * as these can be ordered, times as the lips behind it can.
         */
        int shareOf(int lip, boolean upper) {
            if (!now.isOnDuty(lip)) {
                return inLeastTerms(0, 1, upper);
            }
            int others = now.onDuty & ~(1 << lip);
            int otherCount = Math.min(Integer.bitCount(others), MOST_LIPS - 1);
            int sum = 0;
            for (int ahead = 0; ahead < 1 << plan.lips; ahead++) {
                if ((ahead & ~others) == 0) {
                    int come = Math.min(Integer.bitCount(ahead), otherCount);
                    int orders = FACTORIALS[come] * FACTORIALS[otherCount - come];
                    sum += orders * (knowersBy(ahead | 1 << lip) - knowersBy(ahead));
                }
            }
            return inLeastTerms(sum, FACTORIALS[otherCount + 1], upper);
        }

        private int knowersBy(int lips) {
            startTrial();
            trial.onDuty = lips;
            passHours(WATCHED);
            return Integer.bitCount(trial.knowing());
        }

        void weighPairs(int one, int other) {
            for (int here = 0; here < plan.bowls; here++) {
                for (int there = 0; there < plan.bowls; there++) {
                    startTrial();
                    trial.put(one, here);
                    trial.put(other, there);
                    watch();
                    int more = here == there ? 0 : LONELY;
                    oneHas[MOST_BOWLS * here + there] = kept[one] + more;
                    otherHas[MOST_BOWLS * here + there] = kept[other] + more;
                }
            }
        }

        int restCount() {
            int rests = 0;
            for (int here = 0; here < plan.bowls; here++) {
                for (int there = 0; there < plan.bowls; there++) {
                    if (isRest(here, there)) {
                        rests++;
                    }
                }
            }
            return rests;
        }

        int firstRest() {
            for (int here = 0; here < plan.bowls; here++) {
                for (int there = 0; there < plan.bowls; there++) {
                    if (isRest(here, there)) {
                        return 10 * here + there;
                    }
                }
            }
            return NONE;
        }

        private boolean isRest(int here, int there) {
            int pair = MOST_BOWLS * here + there;
            for (int bowl = 0; bowl < plan.bowls; bowl++) {
                if (oneHas[MOST_BOWLS * bowl + there] > oneHas[pair]
                        || otherHas[MOST_BOWLS * here + bowl] > otherHas[pair]) {
                    return false;
                }
            }
            return true;
        }

        int chanceOfFirst(int fish, int n, int x, boolean upper) {
            int above = 0;
            int below = 0;
            for (int well = 0; well < 1 << plan.lips; well++) {
                if ((well & ~now.onDuty) == 0) {
                    int weight = weightOf(well, x);
                    below += weight;
                    above += knowsFirstBy(well, fish, n) ? weight : 0;
                }
            }
            return inLeastTerms(above, below, upper);
        }

        private int weightOf(int well, int x) {
            int weight = 1;
            for (int lip = 0; lip < plan.lips; lip++) {
                if (now.isOnDuty(lip)) {
                    weight *= (well & 1 << lip) != 0 ? 10 - x : x;
                }
            }
            return weight;
        }

        private boolean knowsFirstBy(int well, int fish, int n) {
            startTrial();
            trial.onDuty = well;
            passHours(n);
            return trial.known[fish] == plan.first[fish];
        }

        /** Goes on from the trial as it is: how many know their first secret then. */
        int draw(int number) {
            if (number >= 9) {
                trial.passHour();
            } else if (number >= 5) {
                dutyTurns(number - 5);
            } else {
                waterIsChanged(number);
            }
            return Integer.bitCount(trial.knowingFirst());
        }

        private static int inLeastTerms(int above, int below, boolean upper) {
            int common = commonDivisor(Math.abs(above), below);
            if (common == 0) {
                return upper ? above : below;
            }
            return upper ? above / common : below / common;
        }

        private static int commonDivisor(int one, int other) {
            int larger = one;
            int smaller = other;
            for (int step = 0; step < 64 && smaller != 0; step++) {
                int rest = larger % smaller;
                larger = smaller;
                smaller = rest;
            }
            return larger;
        }
    }
}
