import java.nio.charset.StandardCharsets;
import java.util.Random;

/** Runs of calls drawn from fixed seeds, each answer beside that of the plain model. */
final class ModelTests {
    private static final Checks CHECKS = new Checks();
    /** The document promises nothing behind an object's 512th call; a last text and counts come behind these calls. */
    private static final int RUNS = 300, CALLS = 380, MOST_CALLS = 512;

    private final Random random;
    private final FishingKites kites = new FishingKites();
    private final PlainModel model = new PlainModel();
    private final int run;
    /** The model tries all heights by brute force, so whole days are asked for seldom. */
    private int daysLeft = 6;
    private int made = 0;

    private ModelTests(int run) {
        this.run = run;
        this.random = new Random(run);
    }

    public static void main(String[] args) {
        for (int run = 0; run < RUNS; run++) {
            new ModelTests(run).calls();
        }
        CHECKS.end();
    }

    /** Each answer is that of one call. */
    private void due(String call, long got, long want) {
        made++;
        CHECKS.due("run " + run + ": " + call, got, want);
    }

    private int pick(int... of) {
        return of[random.nextInt(of.length)];
    }

    /** A number of a range, now and then one beside it. */
    private int near(int least, int most) {
        if (random.nextInt(25) == 0) {
            return pick(least - 1, most + 1, Integer.MIN_VALUE, Integer.MAX_VALUE);
        }
        return least + random.nextInt(most - least + 1);
    }

    private void calls() {
        for (int i = 0; i < 3; i++) {
            text(false);
        }
        while (made < CALLS) {
            oneCall();
        }
        for (int what = 0; what <= 10; what++) {
            due("count", kites.count(what), model.count(what));
        }
        CHECKS.holds("run " + run + ": " + made + " calls", made <= MOST_CALLS);
    }

    private void oneCall() {
        int kind = random.nextInt(100);
        if (kind < 3) {
            text(random.nextInt(3) == 0);
        } else if (kind < 18) {
            int k = near(0, 5);
            int h = near(0, 3);
            due("ask(" + k + ", " + h + ")", kites.ask(k, h), model.ask(k, h));
        } else if (kind < 24) {
            int n = random.nextInt(4) == 0 ? near(1, 12) : 1;
            due("go(" + n + ")", kites.go(n), model.go(n));
        } else if (kind < 34) {
            int k = near(0, 5);
            int what = near(0, 4);
            due("kite(" + k + ", " + what + ")", kites.kite(k, what), model.kite(k, what));
        } else if (kind < 40) {
            int s = near(0, 3);
            int what = near(0, 2);
            due("shoal(" + s + ", " + what + ")", kites.shoal(s, what), model.shoal(s, what));
        } else if (kind < 46) {
            int i = near(0, 30);
            int what = near(0, 3);
            due("taking(" + i + ", " + what + ")", kites.taking(i, what), model.taking(i, what));
        } else if (kind < 50) {
            int k = near(0, 1);
            due("keep(" + k + ")", kites.keep(k), model.keep(k));
        } else if (kind < 54) {
            int k = near(0, 1);
            due("back(" + k + ")", kites.back(k), model.back(k));
        } else if (kind < 60) {
            int what = near(0, 10);
            due("count(" + what + ")", kites.count(what), model.count(what));
        } else if (kind < 78) {
            places(kind);
        } else {
            foretold(kind);
        }
    }

    private void places(int kind) {
        int k = near(0, 5);
        int h = near(1, 3);
        int t = near(0, 11);
        String at = "(" + k + ", " + h + ", " + t + ")";
        if (kind < 63) {
            int what = near(0, 1);
            due("wind(" + h + ", " + t + ", " + what + ")", kites.wind(h, t, what), model.wind(h, t, what));
        } else if (kind < 68) {
            due("where" + at, kites.where(k, h, t), model.where(k, h, t));
        } else if (kind < 72) {
            due("hinders" + at, kites.hinders(k, h, t), model.hinders(k, h, t));
        } else {
            int other = near(0, 5);
            due("tangle " + other + " " + at, kites.tangle(k, other, h, t), model.tangle(k, other, h, t));
        }
    }

    private void foretold(int kind) {
        int k = near(0, 5);
        if (kind < 80) {
            int some = near(-1, 5);
            due("best(" + some + ")", kites.best(some), model.best(some));
        } else if (kind < 82) {
            int some = near(-1, 5);
            if (daysLeft-- > 0) {
                due("allDay(" + some + ")", kites.allDay(some), model.allDay(some));
            }
        } else if (kind < 86) {
            int what = near(0, 1);
            due("laws(" + what + ")", kites.laws(what), model.laws(what));
        } else if (kind < 90) {
            int f = random.nextBoolean() ? near(0, 30) : near(0, 999);
            int[] a = {f, near(1, 99), near(0, 99), near(0, 10), near(0, 8), near(0, 1)};
            due("food " + java.util.Arrays.toString(a), kites.food(a[0], a[1], a[2], a[3], a[4], a[5]),
                model.food(a[0], a[1], a[2], a[3], a[4], a[5]));
        } else if (kind < 95) {
            int[] a = {near(0, 11), near(0, 40), near(0, 10), near(0, 1)};
            due("cut " + k + " " + java.util.Arrays.toString(a), kites.cut(k, a[0], a[1], a[2], a[3]),
                model.cut(k, a[0], a[1], a[2], a[3]));
        } else {
            int n = near(0, 999);
            due("share(" + n + ", " + k + ")", kites.share(n, k), model.share(n, k));
        }
    }

    /** Writes a text, spoils it perhaps, and does its lines. */
    private void text(boolean spoiled) {
        StringBuilder text = new StringBuilder();
        int lines = 1 + random.nextInt(spoiled ? 11 : 10);
        for (int i = 0; i < lines && text.length() < 175; i++) {
            text.append(i > 0 ? ";" : "").append(line());
        }
        if (spoiled) {
            spoil(text);
        }
        byte[] bytes = text.toString().getBytes(StandardCharsets.ISO_8859_1);
        for (int from = 0; from < bytes.length;) {
            int n = near(1, 8);
            long row = random.nextLong();
            if (n >= 1 && n <= 8) {
                n = Math.min(n, bytes.length - from);
                for (int i = 0; i < n; i++) {
                    row = row & ~(255L << 8 * i) | (bytes[from + i] & 255L) << 8 * i;
                }
                from += n;
            }
            due("write(" + row + ", " + n + ")", kites.write(row, n), model.write(row, n));
        }
        due("fault of '" + text + "'", kites.fault(), model.fault());
        int done = model.cliff();
        due("cliff of '" + text + "'", kites.cliff(), done);
        if (done < 0 && random.nextInt(8) != 0) {
            due("erase", kites.erase(), model.erase());
        }
    }

    private void spoil(StringBuilder text) {
        int at = random.nextInt(text.length());
        switch (random.nextInt(4)) {
            case 0 -> text.setCharAt(at, (char) random.nextInt(256));
            case 1 -> text.deleteCharAt(at);
            case 2 -> text.insert(at, (char) pick(' ', ';', '0', '9', 'a', 'z'));
            default -> text.setLength(at);
        }
    }

    /** Kites and shoals stand close together, so that strings cross and nets meet shoals. */
    private String line() {
        int a = random.nextInt(12);
        int b = a + random.nextInt(12 - a);
        int kind = random.nextInt(30);
        if (kind < 8) {
            return join("wind", 1 + random.nextInt(3), random.nextBoolean() ? 0 : a, random.nextBoolean() ? 11 : b,
                random.nextInt(10), pick(0, 2, 3, 3, 4, 6, random.nextInt(7)));
        } else if (kind < 16) {
            return join("kite", random.nextInt(6), pick(3, 4, 5, random.nextInt(10)), 1 + random.nextInt(5),
                pick(3, 4, 5, 1 + random.nextInt(9)), random.nextInt(10), random.nextInt(3));
        } else if (kind < 22) {
            return join("shoal", random.nextInt(4), pick(3, 4, 5, random.nextInt(10)), pick(2, 3, 1 + random.nextInt(6)),
                pick(1, 1, random.nextInt(3)), pick(1, 1, random.nextInt(3)), random.nextInt(100));
        } else if (kind < 24) {
            return join("law", random.nextInt(3));
        } else if (kind < 26) {
            return join("stock", pick(99, random.nextInt(40)));
        } else if (kind < 27) {
            return join("fog", a, b);
        } else if (kind < 28) {
            return join("gulls", random.nextInt(10));
        }
        return random.nextInt(3) == 0 ? "calm" : join("lost", random.nextInt(6));
    }

    private String join(String word, int... numbers) {
        StringBuilder line = new StringBuilder(random.nextInt(6) == 0 ? " " : "").append(word);
        for (int i = 0; i < numbers.length; i++) {
            line.append(i > 0 || random.nextInt(4) != 0 ? " " : "");
            line.append(numbers[i] < 10 && random.nextInt(12) == 0 ? "0" : "").append(numbers[i]);
        }
        return line.append(random.nextInt(8) == 0 ? " " : "").toString();
    }
}
