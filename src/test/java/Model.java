import java.math.BigInteger;
import java.util.ArrayDeque;
import java.util.ArrayList;
import java.util.Arrays;
import java.util.Deque;
import java.util.List;
import java.util.TreeMap;
import java.util.regex.Matcher;
import java.util.regex.Pattern;

/**
 * The document once more, as plainly as the Java library lets it be told and by other ways than the class goes:
 * states that are never changed but made anew, faults by trying what could come behind, shares by all orders,
 * illness by a tree of chances. Slow, and only to compare with.
 */
final class Model {
    static final int UNKNOWN = -1, OUTSIDE = -2, STATE = -3, FULL = -4, NONE = -9;

    record Fish(int first, int kind) { }

    record Lip(int begins, int error) { }

    /** A fish as it is: its bowl, what it knows (null: nothing), what is left. */
    record Has(int bowl, Integer knows, int left) { }

    record World(List<Has> fish, List<Boolean> duty, int hour) { }

    private String text = "";
    private List<Integer> bowls = List.of();
    private List<Fish> fish = List.of();
    private List<Lip> lips = List.of();
    private World world = new World(List.of(), List.of(), 0);
    private final Deque<World> row = new ArrayDeque<>();
    private final TreeMap<Integer, World> slots = new TreeMap<>();
    private final List<int[]> said = new ArrayList<>();
    private BigInteger seed = BigInteger.ZERO;

    // ---- the hall

    int write(int letter) {
        if (letter < 0 || letter > 255) {
            return OUTSIDE;
        }
        if (text.length() == 48) {
            return FULL;
        }
        text += (char) letter;
        return text.length();
    }

    int wipe() {
        int was = text.length();
        text = "";
        return was;
    }

    private static final Pattern PART = Pattern.compile("B([1-9])|F([0-4])([0-9])([0-3])|L([0-4])([0-3])");

    private static boolean isHall(String text) {
        if (!text.startsWith("G")) {
            return false;
        }
        int bowls = 0;
        int fish = 0;
        int lips = 0;
        int[] in = new int[5];
        Matcher part = PART.matcher(text);
        int at = 1;
        while (at < text.length()) {
            part.region(at, text.length());
            if (!part.lookingAt()) {
                return false;
            }
            at = part.end();
            if (part.group(1) != null) {
                bowls++;
            } else if (part.group(2) != null) {
                int bowl = Integer.parseInt(part.group(2));
                if (bowl >= bowls || in[bowl] > 2) {
                    return false;
                }
                in[bowl]++;
                fish++;
            } else {
                if (Integer.parseInt(part.group(5)) >= bowls) {
                    return false;
                }
                lips++;
            }
        }
        return bowls <= 5 && fish <= 5 && lips <= 4;
    }

    /** A text can still be a hall if up to three figures behind it (one for what is open) make it one. */
    private static boolean canBeHall(String text) {
        if (text.isEmpty() || isHall(text)) {
            return true;
        }
        String figures = "0123456789";
        for (int a = 0; a < 10; a++) {
            String one = text + figures.charAt(a);
            if (isHall(one)) {
                return true;
            }
            for (int b = 0; b < 4; b++) {
                String two = one + figures.charAt(b);
                if (isHall(two) || isHall(two + "0")) {
                    return true;
                }
            }
        }
        return false;
    }

    int fault() {
        if (isHall(text)) {
            return NONE;
        }
        for (int place = 0; place < text.length(); place++) {
            if (!canBeHall(text.substring(0, place + 1))) {
                return place;
            }
        }
        return text.length();
    }

    int hall() {
        if (!isHall(text)) {
            return STATE;
        }
        List<Integer> newBowls = new ArrayList<>();
        List<Fish> newFish = new ArrayList<>();
        List<Lip> newLips = new ArrayList<>();
        List<Integer> starts = new ArrayList<>();
        Matcher part = PART.matcher(text.substring(1));
        while (part.find()) {
            if (part.group(1) != null) {
                newBowls.add(Integer.parseInt(part.group(1)));
            } else if (part.group(2) != null) {
                starts.add(Integer.parseInt(part.group(2)));
                newFish.add(new Fish(Integer.parseInt(part.group(3)), Integer.parseInt(part.group(4))));
            } else {
                newLips.add(new Lip(Integer.parseInt(part.group(5)), Integer.parseInt(part.group(6))));
            }
        }
        bowls = newBowls;
        fish = newFish;
        lips = newLips;
        List<Has> all = new ArrayList<>();
        List<Boolean> duty = new ArrayList<>();
        for (int f = 0; f < fish.size(); f++) {
            all.add(new Has(starts.get(f), fish.get(f).first(), lasts(f, starts.get(f))));
        }
        for (int l = 0; l < lips.size(); l++) {
            duty.add(true);
        }
        world = new World(all, duty, 0);
        row.clear();
        slots.clear();
        return 100 * bowls.size() + 10 * fish.size() + lips.size();
    }

    private int lasts(int f, int bowl) {
        int takes = bowls.get(bowl);
        return fish.get(f).kind() == 2 ? Math.max(1, takes / 2) : takes;
    }

    private boolean isBowl(int bowl) {
        return bowl >= 0 && bowl < bowls.size();
    }

    private boolean isFish(int f) {
        return f >= 0 && f < fish.size();
    }

    private boolean isLip(int l) {
        return l >= 0 && l < lips.size();
    }

    private int at(int lip, World w) {
        return (lips.get(lip).begins() + w.hour()) % bowls.size();
    }

    private static int orNone(Integer knows) {
        return knows == null ? NONE : knows;
    }

    int bowl(int bowl, int what) {
        if (!isBowl(bowl)) {
            return UNKNOWN;
        }
        int bits = 0;
        if (what == 0) {
            return bowls.get(bowl);
        }
        if (what == 1) {
            for (int f = 0; f < fish.size(); f++) {
                bits += world.fish().get(f).bowl() == bowl ? 1 << f : 0;
            }
            return bits;
        }
        if (what == 2) {
            for (int l = 0; l < lips.size(); l++) {
                bits += at(l, world) == bowl ? 1 << l : 0;
            }
            return bits;
        }
        return OUTSIDE;
    }

    int fish(int f, int what) {
        if (!isFish(f)) {
            return UNKNOWN;
        }
        Has has = world.fish().get(f);
        int[] answers = {has.bowl(), fish.get(f).first(), fish.get(f).kind(), orNone(has.knows()), has.left(),
            lasts(f, has.bowl())};
        return what >= 0 && what < answers.length ? answers[what] : OUTSIDE;
    }

    int lip(int l, int what) {
        if (!isLip(l)) {
            return UNKNOWN;
        }
        int[] answers = {lips.get(l).begins(), lips.get(l).error(), world.duty().get(l) ? 1 : 0};
        return what >= 0 && what < answers.length ? answers[what] : OUTSIDE;
    }

    // ---- what happens to a world

    private World withFish(World w, int f, Has has) {
        List<Has> all = new ArrayList<>(w.fish());
        all.set(f, has);
        return new World(all, w.duty(), w.hour());
    }

    private World told(World w, int f, int secret) {
        int bowl = w.fish().get(f).bowl();
        return withFish(w, f, new Has(bowl, secret, lasts(f, bowl)));
    }

    private World moved(World w, int f, int bowl) {
        Has has = w.fish().get(f);
        if (has.bowl() == bowl) {
            return w;
        }
        return withFish(w, f, new Has(bowl, has.knows(), Math.min(has.left(), lasts(f, bowl))));
    }

    private boolean mayMove(World w, int f, int bowl) {
        long there = w.fish().stream().filter(has -> has.bowl() == bowl).count();
        return w.fish().get(f).bowl() != bowl && there <= 2;
    }

    private World watered(World w, int bowl) {
        for (int f = 0; f < fish.size(); f++) {
            if (w.fish().get(f).bowl() == bowl && fish.get(f).kind() != 1) {
                w = withFish(w, f, new Has(bowl, null, 0));
            }
        }
        return w;
    }

    private World turned(World w, int l) {
        List<Boolean> duty = new ArrayList<>(w.duty());
        duty.set(l, !duty.get(l));
        return new World(w.fish(), duty, w.hour());
    }

    private World onDuty(World w, int bits) {
        List<Boolean> duty = new ArrayList<>();
        for (int l = 0; l < lips.size(); l++) {
            duty.add((bits >> l & 1) == 1);
        }
        return new World(w.fish(), duty, w.hour());
    }

    private World hourOn(World w) {
        for (int f = 0; f < fish.size(); f++) {
            Has has = w.fish().get(f);
            if (has.knows() != null && fish.get(f).kind() != 1) {
                int left = has.left() - 1;
                w = withFish(w, f, new Has(has.bowl(), left == 0 ? null : has.knows(), left));
            }
        }
        for (int l = 0; l < lips.size(); l++) {
            for (int f = 0; f < fish.size() && w.duty().get(l); f++) {
                Has has = w.fish().get(f);
                if (has.bowl() == at(l, w)) {
                    int tells = (fish.get(f).first() + lips.get(l).error()) % 10;
                    w = told(w, f, has.knows() == null ? tells : has.knows());
                }
            }
        }
        for (int f = 0; f < fish.size(); f++) {
            List<Integer> heard = new ArrayList<>();
            for (int other = 0; other < fish.size(); other++) {
                Has has = w.fish().get(other);
                if (other != f && has.bowl() == w.fish().get(f).bowl() && has.knows() != null) {
                    heard.add(has.knows());
                }
            }
            if (fish.get(f).kind() == 3 && !heard.isEmpty()) {
                w = told(w, f, heard.stream().mapToInt(Integer::intValue).sum() % 10);
            }
        }
        return new World(w.fish(), w.duty(), w.hour() + 1);
    }

    private World hoursOn(World w, int n) {
        return n == 0 ? w : hoursOn(hourOn(w), n - 1);
    }

    // ---- acts

    private void act(World next) {
        row.addLast(world);
        if (row.size() > 14) {
            row.removeFirst();
        }
        world = next;
    }

    private int knowers(World w) {
        return (int) w.fish().stream().filter(has -> has.knows() != null).count();
    }

    int hour() {
        act(hourOn(world));
        return knowers(world);
    }

    int move(int f, int bowl) {
        if (!isFish(f) || !isBowl(bowl)) {
            return UNKNOWN;
        }
        if (!mayMove(world, f, bowl)) {
            return STATE;
        }
        int from = world.fish().get(f).bowl();
        act(moved(world, f, bowl));
        return from;
    }

    int water(int bowl) {
        if (!isBowl(bowl)) {
            return UNKNOWN;
        }
        int knew = knowers(world);
        act(watered(world, bowl));
        return knew - knowers(world);
    }

    int tell(int f, int secret) {
        if (!isFish(f)) {
            return UNKNOWN;
        }
        if (secret < 0 || secret > 9) {
            return OUTSIDE;
        }
        int knew = orNone(world.fish().get(f).knows());
        act(told(world, f, secret));
        return knew;
    }

    int duty(int l) {
        if (!isLip(l)) {
            return UNKNOWN;
        }
        act(turned(world, l));
        return world.duty().get(l) ? 1 : 0;
    }

    int undo() {
        if (row.isEmpty()) {
            return STATE;
        }
        world = row.removeLast();
        return row.size();
    }

    // ---- what is kept

    int ahead(int f, int n) {
        if (!isFish(f)) {
            return UNKNOWN;
        }
        return n < 0 || n > 20 ? OUTSIDE : orNone(hoursOn(world, n).fish().get(f).knows());
    }

    int lost(int f) {
        if (!isFish(f)) {
            return UNKNOWN;
        }
        for (int n = 0; n <= 20; n++) {
            if (hoursOn(world, n).fish().get(f).knows() == null) {
                return n;
            }
        }
        return NONE;
    }

    int crew() {
        for (int size = 0; size <= lips.size(); size++) {
            for (int bits = 0; bits < 16; bits++) {
                if (bits < 1 << lips.size() && Integer.bitCount(bits) == size && nothingLost(onDuty(world, bits))) {
                    return bits;
                }
            }
        }
        return NONE;
    }

    private boolean nothingLost(World w) {
        for (int n = 1; n <= 12; n++) {
            w = hourOn(w);
            if (knowers(w) < fish.size()) {
                return false;
            }
        }
        return true;
    }

    private int kept(World w, int f) {
        int kept = 0;
        for (int n = 1; n <= 12; n++) {
            kept += hoursOn(w, n).fish().get(f).knows() == null ? 0 : 1;
        }
        return kept;
    }

    int keeps(int f, int bowl) {
        return !isFish(f) || !isBowl(bowl) ? UNKNOWN : kept(moved(world, f, bowl), f);
    }

    int best(int f) {
        if (!isFish(f)) {
            return UNKNOWN;
        }
        int most = 0;
        for (int bowl = 0; bowl < bowls.size(); bowl++) {
            most = Math.max(most, keeps(f, bowl));
        }
        int bowl = 0;
        while (keeps(f, bowl) != most) {
            bowl++;
        }
        return bowl;
    }

    int judge(int n, long rowOf) {
        if (n < 1 || n > 4 || rowOf < 0 || Long.toString(rowOf).length() > 3 * n) {
            return OUTSIDE;
        }
        StringBuilder figures = new StringBuilder(Long.toString(rowOf));
        while (figures.length() < 3 * n) {
            figures.insert(0, '0');
        }
        World w = world;
        for (int place = 0; place < n; place++) {
            String doing = figures.substring(3 * place, 3 * place + 3);
            w = done(w, doing.charAt(0), doing.charAt(1) - '0', doing.charAt(2) - '0');
            if (w == null) {
                return place;
            }
        }
        return NONE;
    }

    private World done(World w, char kind, int a, int b) {
        if (kind == '0') {
            return a == 0 && b == 0 ? hourOn(w) : null;
        }
        if (kind == '1') {
            return isFish(a) && isBowl(b) && mayMove(w, a, b) ? moved(w, a, b) : null;
        }
        if (kind == '2') {
            return a == 0 && isBowl(b) ? watered(w, b) : null;
        }
        if (kind == '3') {
            return isFish(a) ? told(w, a, b) : null;
        }
        if (kind == '4') {
            return a == 0 && isLip(b) ? turned(w, b) : null;
        }
        return kind == '5' && isFish(a) && Integer.valueOf(b).equals(w.fish().get(a).knows()) ? w : null;
    }

    // ---- what it was

    int say(int f, int v) {
        if (!isFish(f)) {
            return UNKNOWN;
        }
        if (v < 0 || v > 9) {
            return OUTSIDE;
        }
        if (said.size() == 6) {
            return FULL;
        }
        said.add(new int[] {f, v});
        return said.size();
    }

    int unsay() {
        int was = said.size();
        said.clear();
        return was;
    }

    int firsts(int f) {
        if (!isFish(f)) {
            return UNKNOWN;
        }
        int bits = 1023;
        for (int[] one : said) {
            int may = 0;
            for (Lip lip : lips) {
                may |= 1 << (one[1] + 10 - lip.error()) % 10;
            }
            bits &= one[0] == f ? may : 1023;
        }
        return bits;
    }

    // ---- shares, rests, chances

    private static int fraction(BigInteger above, BigInteger below, boolean upper) {
        BigInteger common = above.gcd(below);
        return (upper ? above : below).divide(common).intValueExact();
    }

    int share(int l, boolean upper) {
        if (!isLip(l)) {
            return UNKNOWN;
        }
        long[] more = new long[2];
        orders(l, 0, 0, more);
        return fraction(BigInteger.valueOf(more[0]), BigInteger.valueOf(more[1]), upper);
    }

    /** All orders of all lips: those that are ill now come, but stay ill. */
    private void orders(int l, int come, int wellOnes, long[] more) {
        if (come == (1 << lips.size()) - 1) {
            more[1]++;
            return;
        }
        for (int next = 0; next < lips.size(); next++) {
            if ((come >> next & 1) == 0) {
                int well = world.duty().get(next) ? wellOnes | 1 << next : wellOnes;
                if (next == l) {
                    int rest = lips.size() - Integer.bitCount(come) - 1;
                    int behind = rest < 2 ? 1 : rest == 2 ? 2 : 6;
                    int gain = knowers(hoursOn(onDuty(world, well), 12))
                        - knowers(hoursOn(onDuty(world, wellOnes), 12));
                    more[0] += (long) behind * gain;
                    more[1] += behind;
                } else {
                    orders(l, come | 1 << next, well, more);
                }
            }
        }
    }

    int rests(int one, int other, int what) {
        if (!isFish(one) || !isFish(other)) {
            return UNKNOWN;
        }
        if (one == other || what < 0 || what > 1) {
            return OUTSIDE;
        }
        List<Integer> found = new ArrayList<>();
        for (int a = 0; a < bowls.size(); a++) {
            for (int b = 0; b < bowls.size(); b++) {
                boolean rest = true;
                int oneNow = gains(one, other, a, b);
                int otherNow = gains(other, one, b, a);
                for (int c = 0; c < bowls.size() && rest; c++) {
                    rest = gains(one, other, c, b) <= oneNow && gains(other, one, c, a) <= otherNow;
                }
                if (rest) {
                    found.add(10 * a + b);
                }
            }
        }
        return what == 0 ? found.size() : found.isEmpty() ? NONE : found.get(0);
    }

    private int gains(int f, int other, int bowl, int otherBowl) {
        World w = moved(moved(world, f, bowl), other, otherBowl);
        int kept = 0;
        for (int n = 0; n < 12; n++) {
            w = hourOn(w);
            kept += w.fish().get(f).knows() == null ? 0 : 1;
        }
        return bowl == otherBowl ? kept : kept + 2;
    }

    int ill(int f, int n, int x, boolean upper) {
        if (!isFish(f)) {
            return UNKNOWN;
        }
        if (n < 0 || n > 20 || x < 0 || x > 10) {
            return OUTSIDE;
        }
        BigInteger above = chance(world, 0, f, n, x);
        BigInteger below = BigInteger.TEN.pow(lips.size());
        return fraction(above, below, upper);
    }

    private BigInteger chance(World w, int l, int f, int n, int x) {
        if (l == lips.size()) {
            boolean knows = Integer.valueOf(fish.get(f).first()).equals(hoursOn(w, n).fish().get(f).knows());
            return knows ? BigInteger.ONE : BigInteger.ZERO;
        }
        if (!w.duty().get(l)) {
            return chance(w, l + 1, f, n, x).multiply(BigInteger.TEN);
        }
        return chance(turned(w, l), l + 1, f, n, x).multiply(BigInteger.valueOf(x))
            .add(chance(w, l + 1, f, n, x).multiply(BigInteger.valueOf(10 - x)));
    }

    long seed(long v) {
        long was = seed.longValue();
        seed = BigInteger.valueOf(v);
        return was;
    }

    int decades(int m) {
        if (m < 1 || m > 30) {
            return OUTSIDE;
        }
        World w = world;
        int sum = 0;
        for (int time = 0; time < m; time++) {
            seed = seed.multiply(new BigInteger("6364136223846793005")).add(new BigInteger("1442695040888963407"))
                .mod(BigInteger.TWO.pow(64));
            int draw = seed.shiftRight(33).mod(BigInteger.valueOf(24)).intValueExact();
            if (draw <= 4 && isBowl(draw)) {
                w = watered(w, draw);
            } else if (draw >= 5 && draw <= 8 && isLip(draw - 5)) {
                w = turned(w, draw - 5);
            } else if (draw >= 9) {
                w = hourOn(w);
            }
            sum += Integer.bitCount(firstBits(w));
        }
        return sum;
    }

    private int firstBits(World w) {
        int bits = 0;
        for (int f = 0; f < fish.size(); f++) {
            Integer knows = w.fish().get(f).knows();
            bits += knows != null && knows == fish.get(f).first() ? 1 << f : 0;
        }
        return bits;
    }

    // ---- slots

    int keep(int slot) {
        if (slot < 0 || slot > 1) {
            return UNKNOWN;
        }
        slots.put(slot, world);
        return world.hour();
    }

    int again(int slot) {
        if (slot < 0 || slot > 1) {
            return UNKNOWN;
        }
        if (!slots.containsKey(slot)) {
            return STATE;
        }
        world = slots.get(slot);
        row.clear();
        return world.hour();
    }

    int count(int what) {
        int known = 0;
        for (int f = 0; f < fish.size(); f++) {
            known += world.fish().get(f).knows() != null ? 1 << f : 0;
        }
        int duty = 0;
        for (int l = 0; l < lips.size(); l++) {
            duty += world.duty().get(l) ? 1 << l : 0;
        }
        List<Integer> answers = Arrays.asList(text.length(), bowls.size(), fish.size(), lips.size(), world.hour(),
            known, firstBits(world), duty, row.size(), said.size());
        return what >= 0 && what < answers.size() ? answers.get(what) : OUTSIDE;
    }
}
