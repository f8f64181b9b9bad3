import java.util.Random;

/** All promises: runs of random calls (by fixed seeds), each answer compared with the Model's. */
public final class RandomRunsTest {
    private static final Due DUE = new Due();

    public static void main(String[] args) {
        int runs = args.length > 0 ? Integer.parseInt(args[0]) : 300;
        for (int run = 0; run < runs && DUE.wrong() == 0; run++) {
            new Run(run).go();
        }
        faults(runs * 100);
        DUE.end();
    }

    /** Texts that are nearly halls, for their faults alone. */
    private static void faults(int texts) {
        Random random = new Random(4);
        for (int i = 0; i < texts && DUE.wrong() == 0; i++) {
            BowlState x = new BowlState();
            Model model = new Model();
            String text = nearlyHall(random);
            for (int at = 0; at < text.length(); at++) {
                x.write(text.charAt(at));
                model.write(text.charAt(at));
            }
            DUE.is("fault of " + text, x.fault(), model.fault());
            DUE.is("hall of " + text, x.hall(), model.hall());
        }
    }

    static String hallText(Random random) {
        StringBuilder text = new StringBuilder("G");
        int bowls = 0;
        int fish = 0;
        int lips = 0;
        int[] in = new int[5];
        int wanted = random.nextInt(16);
        int longest = 1 + random.nextInt(9);
        for (int part = 0; part < wanted; part++) {
            int kind = random.nextInt(3);
            if (kind == 0 && bowls < 5) {
                text.append('B').append(1 + random.nextInt(longest));
                bowls++;
            } else if (kind == 1 && fish < 5 && bowls > 0) {
                int bowl = random.nextInt(bowls);
                if (in[bowl] < 3) {
                    in[bowl]++;
                    fish++;
                    text.append('F').append(bowl).append(random.nextInt(10)).append(random.nextInt(4));
                }
            } else if (kind == 2 && lips < 4 && bowls > 0) {
                lips++;
                text.append('L').append(random.nextInt(bowls)).append(random.nextInt(4));
            }
        }
        return text.toString();
    }

    private static String nearlyHall(Random random) {
        StringBuilder text = new StringBuilder(hallText(random));
        String letters = "GBFL0123456789 :/g";
        int changes = random.nextInt(3);
        for (int change = 0; change < changes && text.length() > 0; change++) {
            int at = random.nextInt(text.length());
            char letter = letters.charAt(random.nextInt(letters.length()));
            switch (random.nextInt(4)) {
                case 0 -> text.setCharAt(at, letter);
                case 1 -> text.insert(at, letter);
                case 2 -> text.deleteCharAt(at);
                default -> text.append(letter);
            }
        }
        text.setLength(Math.min(48, text.length()));
        return text.toString();
    }

    private static final class Run {
        private final int number;
        private final Random random;
        private final BowlState x = new BowlState();
        private final Model model = new Model();

        Run(int number) {
            this.number = number;
            this.random = new Random(number);
        }

        void go() {
            if (number % 10 != 0) {
                makeHall(hallText(random));
            }
            for (int call = 0; call < 400 && DUE.wrong() == 0; call++) {
                step(random.nextInt(40));
            }
        }

        private void makeHall(String text) {
            is("wipe", x.wipe(), model.wipe());
            for (int at = 0; at < text.length(); at++) {
                is("write", x.write(text.charAt(at)), model.write(text.charAt(at)));
            }
            is("hall " + text, x.hall(), model.hall());
        }

        private void is(String call, long got, long want) {
            DUE.is("run " + number + ": " + call, got, want);
        }

        /** Mostly below the limit, at times a little outside. */
        private int upTo(int limit) {
            int edge = random.nextInt(25);
            if (edge == 0) {
                return -1;
            }
            return edge == 1 ? limit : random.nextInt(limit);
        }

        private int someFish() {
            return upTo(Math.max(1, model.count(2)));
        }

        private int someBowl() {
            return upTo(Math.max(1, model.count(1)));
        }

        private int someLip() {
            return upTo(Math.max(1, model.count(3)));
        }

        private void step(int kind) {
            int f = someFish();
            int b = someBowl();
            int l = someLip();
            int v = upTo(10);
            if (kind < 20) {
                act(kind, f, b, l, v);
            } else {
                ask(kind, f, b, l, v);
            }
            everything();
        }

        private void act(int kind, int f, int b, int l, int v) {
            switch (kind) {
                case 0, 1, 2, 3, 4, 5 -> is("hour", x.hour(), model.hour());
                case 6, 7, 8 -> is("move " + f + " " + b, x.move(f, b), model.move(f, b));
                case 9 -> is("water " + b, x.water(b), model.water(b));
                case 10, 11 -> is("tell " + f + " " + v, x.tell(f, v), model.tell(f, v));
                case 12, 13 -> is("duty " + l, x.duty(l), model.duty(l));
                case 14 -> {
                    int times = random.nextInt(3) == 0 ? 16 : 1;
                    for (int i = 0; i < times; i++) {
                        is("undo", x.undo(), model.undo());
                    }
                }
                case 15 -> is("keep", x.keep(v % 3), model.keep(v % 3));
                case 16 -> is("again", x.again(v % 3), model.again(v % 3));
                case 17 -> {
                    if (random.nextInt(10) == 0) {
                        makeHall(random.nextInt(3) == 0 ? nearlyHall(random) : hallText(random));
                    }
                }
                case 18 -> is("write", x.write(v + 250), model.write(v + 250));
                default -> {
                    long seed = random.nextLong();
                    is("seed", x.seed(seed), model.seed(seed));
                }
            }
        }

        private void ask(int kind, int f, int b, int l, int v) {
            int n = upTo(21);
            int tenths = upTo(11);
            int other = someFish();
            int what = upTo(2);
            boolean upper = random.nextBoolean();
            switch (kind) {
                case 20, 21 -> is("ahead " + f + " " + n, x.ahead(f, n), model.ahead(f, n));
                case 22, 23 -> is("lost " + f, x.lost(f), model.lost(f));
                case 24, 25 -> is("crew", x.crew(), model.crew());
                case 26, 27 -> is("keeps " + f + " " + b, x.keeps(f, b), model.keeps(f, b));
                case 28 -> is("best " + f, x.best(f), model.best(f));
                case 29, 30, 31 -> judge();
                case 32 -> is("say " + f + " " + v, x.say(f, v), model.say(f, v));
                case 33 -> {
                    if (random.nextInt(4) == 0) {
                        is("unsay", x.unsay(), model.unsay());
                    }
                    is("firsts " + f, x.firsts(f), model.firsts(f));
                }
                case 34, 35 -> is("share " + l + upper, x.share(l, upper), model.share(l, upper));
                case 36 -> is("rests " + f + " " + other + " " + what, x.rests(f, other, what),
                    model.rests(f, other, what));
                case 37, 38 -> is("ill " + f + " " + n + " " + tenths + upper, x.ill(f, n, tenths, upper),
                    model.ill(f, n, tenths, upper));
                default -> is("decades " + (n + 10), x.decades(n + 10), model.decades(n + 10));
            }
        }

        private void judge() {
            int n = upTo(5);
            long row = 0;
            for (int doing = 0; doing < n; doing++) {
                row = 1000 * row + someDoing();
            }
            if (random.nextInt(30) == 0) {
                row = random.nextBoolean() ? row * 1000 + 7 : -row;
            }
            is("judge " + n + " " + row, x.judge(n, row), model.judge(n, row));
        }

        private int someDoing() {
            int f = Math.max(0, someFish());
            int knows = model.fish(f, 3);
            switch (random.nextInt(8)) {
                case 0, 1:
                    return 0;
                case 2:
                    return 100 + 10 * f + Math.max(0, someBowl());
                case 3:
                    return 200 + Math.max(0, someBowl());
                case 4:
                    return 300 + 10 * f + random.nextInt(10);
                case 5:
                    return 400 + Math.max(0, someLip());
                case 6:
                    return 500 + 10 * f + (knows >= 0 ? knows : random.nextInt(10));
                default:
                    return random.nextInt(1000);
            }
        }

        /** All that can be read, in both: questions must change nothing, acts just what they say. */
        private void everything() {
            for (int what = -1; what <= 10; what++) {
                is("count " + what, x.count(what), model.count(what));
            }
            for (int i = -1; i <= 5; i++) {
                for (int what = -1; what <= 6; what++) {
                    is("fish " + i + " " + what, x.fish(i, what), model.fish(i, what));
                    is("bowl " + i + " " + what, x.bowl(i, what), model.bowl(i, what));
                    is("lip " + i + " " + what, x.lip(i, what), model.lip(i, what));
                }
            }
        }
    }
}
