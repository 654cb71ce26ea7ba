import java.util.Arrays;

/** Kites that fish from a cliff: what is told in texts, hours that go, and what is foretold. */
public final class FishingKites {
    public static final int NONE = -1, UNKNOWN = -2, OUTSIDE = -3, NOT = -4, FULL = -5;

    private static final int KITES = 6, SHOALS = 4, HEIGHTS = 3, HOURS = 12, LAWS = 3;
    /** Heights that a kite may be asked for: 0, too. */
    private static final int CHOICES = HEIGHTS + 1;
    private static final int KEPT_DAYS = 2;
    private static final int SEA_RIGHT = 9, SEA_NEAR = 1, SEA_FAR = 6;
    private static final int FIRST_STOCK = 30;
    /** What is added to a number so that it is told as one from 0 on. */
    private static final int DRIFT_SHIFT = 3, MOVE_SHIFT = 1, PLACE_SHIFT = 100;
    /** A string's length times the drift, by this, is how far a kite is from its post. */
    private static final int DRIFT_PART = 3;

    private static final int MOST_BYTES = 200, MOST_LINES = 10, MOST_NUMBERS = 6, MOST_DIGITS = 2;
    private static final int MOST_WRITTEN = 8;
    private static final int BLANK = 32, SEMICOLON = 59;

    private static final int WIND = 0, KITE = 1, SHOAL = 2, LAW = 3, STOCK = 4, FOG = 5, GULLS = 6, CALM = 7, LOST = 8;
    private static final int WORDS = 9;
    /** Where the numbers of each word begin in LEAST and MOST; the next word's begin is their end. */
    private static final int[] NUMBERS_FROM = {0, 5, 11, 17, 18, 19, 21, 22, 22, 23};
    private static final int[] LEAST = {
        1, 0, 0, 0, 0,
        0, 0, 1, 1, 0, 0,
        0, 0, 1, 0, 0, 0,
        0,
        0,
        0, 0,
        0,
        0
    };
    private static final int[] MOST = {
        3, 11, 11, 9, 6,
        5, 9, 5, 9, 9, 2,
        3, 9, 6, 2, 2, 99,
        2,
        99,
        11, 11,
        9,
        5
    };

    private static final int BY_SIZE = 0, BY_CLAN = 1;
    private static final int FISH_BY_NET = 3;
    /** Each kite can take from each shoal in each hour. */
    private static final int MOST_TAKINGS = KITES * SHOALS * HOURS;
    private static final int NOTE_BITS = 4, NOTE_MASK = 15;

    private static final int TENTHS = 10;
    private static final int MOST_FISH = 999, MOST_EATEN = 99, MOST_COMING = 99, MOST_DAYS = 8;
    private static final int MAINLAND_MOST = 40;
    /** A cut kite begins at x -9 .. 18 and drifts by at most 3 in each of 12 hours. */
    private static final int LEAST_X = -45, X_SPAN = 100;
    /** Far above the steps that two numbers up to 10 to the 12th can need. */
    private static final int GCD_STEPS = 1000;

    private final Text text = new Text();
    private final Sea sea = new Sea();
    private final Chart chart = new Chart();
    private final Day day = new Day();
    /** The day at its begin: no hour ever goes in it, so only its shoals are set anew. */
    private final Day morning = new Day();
    private final Day trial = new Day();
    private final Day[] kept = new Day[KEPT_DAYS];
    private int keptBits;
    private final Search hourSearch = new Search();
    private final Search daySearch = new Search();
    private final Odds odds = new Odds();

    public FishingKites() {
        for (int k = 0; k < KEPT_DAYS; k++) {
            kept[k] = new Day();
        }
    }

    // ---- what is told

    public int write(long bytes, int n) {
        if (n < 1 || n > MOST_WRITTEN) {
            return OUTSIDE;
        }
        if (!text.hasRoom(n)) {
            return FULL;
        }
        text.append(bytes, n);
        return text.length;
    }

    public int erase() {
        int had = text.length;
        text.length = 0;
        return had;
    }

    public int fault() {
        return text.readInto(null);
    }

    public int cliff() {
        if (text.readInto(null) != NONE) {
            return NOT;
        }
        text.readInto(sea);
        text.length = 0;
        chart.draw(sea);
        morning.stockShoals(sea);
        day.become(morning);
        keptBits = 0;
        hourSearch.forget();
        daySearch.forget();
        return text.lines;
    }

    public int wind(int height, int hour, int what) {
        if (!isHeight(height) || !isHour(hour)) {
            return UNKNOWN;
        }
        switch (what) {
            case 0: return Sea.windAt(sea.strength, height, hour);
            case 1: return Sea.windAt(sea.drift, height, hour) + DRIFT_SHIFT;
            default: return OUTSIDE;
        }
    }

    public int shoal(int shoal, int what) {
        if (!sea.isToldShoal(shoal)) {
            return UNKNOWN;
        }
        switch (what) {
            case 0: return sea.shoalX(shoal, day.hours) + PLACE_SHIFT;
            case 1: return sea.shoalY(shoal, day.hours) + PLACE_SHIFT;
            case 2: return day.left[shoal];
            default: return OUTSIDE;
        }
    }

    // ---- hours

    public int ask(int kite, int height) {
        if (!sea.isToldKite(kite)) {
            return UNKNOWN;
        }
        if (height < 0 || height >= CHOICES) {
            return OUTSIDE;
        }
        int before = day.asked[kite];
        day.asked[kite] = height;
        return before;
    }

    public int go(int n) {
        if (n < 1 || n > HOURS) {
            return OUTSIDE;
        }
        day.pass(n, sea, chart, sea.law);
        hourSearch.forget();
        return day.hours;
    }

    public int kite(int kite, int what) {
        if (!sea.isToldKite(kite)) {
            return UNKNOWN;
        }
        switch (what) {
            case 0: return isIn(day.up, kite) ? 1 : 0;
            case 1: return day.asked[kite];
            case 2: return day.catches[kite];
            case 3: return day.upHours[kite];
            case 4: return day.gaveWay[kite];
            default: return OUTSIDE;
        }
    }

    public int where(int kite, int height, int hour) {
        if (!isPlace(kite, height, hour)) {
            return UNKNOWN;
        }
        if (!sea.isInSea(kite, height, hour)) {
            return NONE;
        }
        return sea.kiteX(kite, height, hour) + 10 * sea.kiteY(kite, height);
    }

    public int hinders(int kite, int height, int hour) {
        if (!isPlace(kite, height, hour)) {
            return UNKNOWN;
        }
        if (!sea.isInSea(kite, height, hour)) {
            return 2;
        }
        return sea.hasLift(kite, height, hour) ? 0 : 1;
    }

    public int tangle(int one, int other, int height, int hour) {
        if (!isPlace(one, height, hour) || !sea.isToldKite(other)) {
            return UNKNOWN;
        }
        if (one == other) {
            return OUTSIDE;
        }
        if (!sea.wouldCross(one, other, height, hour)) {
            return NONE;
        }
        return sea.givingWay(Math.min(one, other), Math.max(one, other), sea.law);
    }

    public int taking(int i, int what) {
        if (i < 0 || what < 0 || what > 3) {
            return OUTSIDE;
        }
        if (i >= day.takings || i >= MOST_TAKINGS) {
            return NONE;
        }
        int shifted = day.notes[i] >> NOTE_BITS * what;
        return what == 3 ? shifted : shifted & NOTE_MASK;
    }

    public int keep(int k) {
        if (k < 0 || k >= KEPT_DAYS) {
            return UNKNOWN;
        }
        kept[k].become(day);
        keptBits |= 1 << k;
        return day.hours;
    }

    public int back(int k) {
        if (k < 0 || k >= KEPT_DAYS) {
            return UNKNOWN;
        }
        if (!isIn(keptBits, k)) {
            return NOT;
        }
        day.become(kept[k]);
        hourSearch.forget();
        return day.hours;
    }

    // ---- foretold

    public int best(int kite) {
        if (kite != NONE && !sea.isToldKite(kite)) {
            return UNKNOWN;
        }
        if (day.hours >= HOURS) {
            return NOT;
        }
        hourSearch.find(day, 1, trial, sea, chart);
        return kite == NONE ? hourSearch.most : hourSearch.heightOf(kite);
    }

    public int allDay(int kite) {
        if (kite != NONE && !sea.isToldKite(kite)) {
            return UNKNOWN;
        }
        daySearch.find(morning, HOURS, trial, sea, chart);
        return kite == NONE ? daySearch.most : daySearch.heightOf(kite);
    }

    public int laws(int what) {
        if (what < 0 || what > 1) {
            return OUTSIDE;
        }
        int bestLaw = 0;
        int most = NONE;
        for (int law = 0; law < LAWS; law++) {
            int caught = caughtAllDayBy(law);
            if (caught > most) {
                most = caught;
                bestLaw = law;
            }
        }
        return what == 0 ? bestLaw : most;
    }

    public long food(int f, int e, int c, int p, int n, int part) {
        if (f < 0 || f > MOST_FISH || e < 1 || e > MOST_EATEN || c < 0 || c > MOST_COMING) {
            return OUTSIDE;
        }
        if (p < 0 || p > TENTHS || n < 0 || n > MOST_DAYS || part < 0 || part > 1) {
            return OUTSIDE;
        }
        return lowestTerm(odds.enough(f, e, c, p, n), tenToThe(n), part);
    }

    public long cut(int kite, int hour, int m, int p, int part) {
        if (!sea.isToldKite(kite) || !isHour(hour)) {
            return UNKNOWN;
        }
        if (m < 0 || m > MAINLAND_MOST || p < 0 || p > TENTHS || part < 0 || part > 1) {
            return OUTSIDE;
        }
        int height = day.asked[kite];
        if (height == 0) {
            return NOT;
        }
        int x = sea.kiteX(kite, height, hour);
        odds.begin(x - LEAST_X);
        for (int t = hour; t < HOURS; t++) {
            odds.drift(Sea.windAt(sea.drift, height, t), p);
        }
        return lowestTerm(odds.sumFrom(m - LEAST_X), tenToThe(HOURS - hour), part);
    }

    public int share(int n, int kite) {
        if (!sea.isToldKite(kite)) {
            return UNKNOWN;
        }
        if (n < 0 || n > MOST_FISH) {
            return OUTSIDE;
        }
        return sea.shareOf(n, kite);
    }

    public int count(int what) {
        switch (what) {
            case 0: return sea.kiteBits();
            case 1: return sea.shoalBits();
            case 2: return sea.law;
            case 3: return sea.stock;
            case 4: return sea.fog;
            case 5: return sea.gulls;
            case 6: return day.hours;
            case 7: return day.takings;
            case 8: return day.caught;
            case 9: return day.gullsHave;
            case 10: return text.length;
            default: return OUTSIDE;
        }
    }

    // ---- helpers of the face

    private int caughtAllDayBy(int law) {
        trial.resume(morning);
        for (int k = 0; k < KITES; k++) {
            trial.asked[k] = day.asked[k];
        }
        trial.pass(HOURS, sea, chart, law);
        return trial.caught;
    }

    private boolean isPlace(int kite, int height, int hour) {
        return sea.isToldKite(kite) && isHeight(height) && isHour(hour);
    }

    private static boolean isHeight(int height) {
        return height >= 1 && height <= HEIGHTS;
    }

    private static boolean isHour(int hour) {
        return hour >= 0 && hour < HOURS;
    }

    private static boolean isIn(int bits, int i) {
        return (bits >> i & 1) == 1;
    }

    private static long tenToThe(int n) {
        long power = 1;
        for (int i = 0; i < n; i++) {
            power *= TENTHS;
        }
        return power;
    }

    private static long lowestTerm(long above, long below, int part) {
        long divisor = below;
        long rest = above;
        for (int i = 0; i < GCD_STEPS && rest != 0; i++) {
            long next = divisor % rest;
            divisor = rest;
            rest = next;
        }
        long term = part == 0 ? above : below;
        return divisor > 0 ? term / divisor : term;
    }

    /** The row of bytes that is written, and its reader. */
    private static final class Text {
        final int[] bytes = new int[MOST_BYTES];
        final int[] numbers = new int[MOST_NUMBERS];
        int length;
        int lines;
        int at;

        boolean hasRoom(int n) {
            return length + n <= MOST_BYTES;
        }

        void append(long row, int n) {
            for (int i = 0; i < n && length < MOST_BYTES; i++) {
                bytes[length] = (int) (row >> 8 * i & 255);
                length++;
            }
        }

        /** The place of the fault, or NONE; each line ahead of it is told to the sea, if there is one. */
        int readInto(Sea target) {
            at = 0;
            lines = 0;
            for (int i = 0; i < MOST_LINES; i++) {
                skipBlanks();
                int word = readWord();
                if (!readNumbers(word)) {
                    return at;
                }
                lines++;
                if (target != null) {
                    target.tell(word, numbers);
                }
                skipBlanks();
                if (at >= length) {
                    return NONE;
                }
                if (peek(at) != SEMICOLON) {
                    return at;
                }
                at++;
            }
            // the semicolon behind the last line that may be
            return at - 1;
        }

        /** The byte at a place, or NONE behind the end. */
        int peek(int place) {
            return place >= 0 && place < length && place < MOST_BYTES ? bytes[place] : NONE;
        }

        void skipBlanks() {
            for (int i = 0; i < MOST_BYTES && peek(at) == BLANK; i++) {
                at++;
            }
        }

        /** The word that begins here and is then behind; NONE, and nothing is passed, if it is none. */
        int readWord() {
            int end = at;
            for (int i = 0; i < MOST_BYTES && isLetter(peek(end)); i++) {
                end++;
            }
            for (int word = 0; word < WORDS; word++) {
                if (isSpelled(nameOf(word), end)) {
                    at = end;
                    return word;
                }
            }
            return NONE;
        }

        boolean isSpelled(String name, int end) {
            if (name.length() != end - at) {
                return false;
            }
            for (int i = 0; i < name.length(); i++) {
                if (name.charAt(i) != peek(at + i)) {
                    return false;
                }
            }
            return true;
        }

        /** Whether it is a word and all its numbers come; if not, the reader stands at what comes instead. */
        boolean readNumbers(int word) {
            if (word < 0 || word >= WORDS) {
                return false;
            }
            int from = NUMBERS_FROM[word];
            int size = NUMBERS_FROM[word + 1] - from;
            for (int i = 0; i < size && i < MOST_NUMBERS; i++) {
                skipBlanks();
                int least = isEndOfHours(word, i) ? numbers[i - 1] : LEAST[from + i];
                int number = readNumber(least, MOST[from + i]);
                if (number == NONE) {
                    return false;
                }
                numbers[i] = number;
            }
            return true;
        }

        int readNumber(int least, int most) {
            int end = at;
            int number = 0;
            for (int i = 0; i < MOST_BYTES && isDigit(peek(end)); i++) {
                if (i < MOST_DIGITS) {
                    number = 10 * number + peek(end) - '0';
                }
                end++;
            }
            int digits = end - at;
            if (digits == 0 || digits > MOST_DIGITS || number < least || number > most) {
                return NONE;
            }
            at = end;
            return number;
        }

        /** Whether the i-th number is the last of some hours, and so not below the one ahead of it. */
        static boolean isEndOfHours(int word, int i) {
            return word == WIND && i == 2 || word == FOG && i == 1;
        }

        static boolean isLetter(int b) {
            return b >= 'a' && b <= 'z';
        }

        static boolean isDigit(int b) {
            return b >= '0' && b <= '9';
        }

        static String nameOf(int word) {
            switch (word) {
                case WIND: return "wind";
                case KITE: return "kite";
                case SHOAL: return "shoal";
                case LAW: return "law";
                case STOCK: return "stock";
                case FOG: return "fog";
                case GULLS: return "gulls";
                case CALM: return "calm";
                default: return "lost";
            }
        }
    }

    /** A kite as it is told. */
    private static final class Kite {
        boolean told;
        int post;
        int size;
        int string;
        int net;
        int clan;
    }

    /** A shoal as it is told: where it is in hour 0, how it moves, how many fish. */
    private static final class Shoal {
        boolean told;
        int x;
        int y;
        int moveX;
        int moveY;
        int many;
    }

    /** All that texts have told, and what follows from it for one kite or for two. */
    private static final class Sea {
        final Kite[] kites = new Kite[KITES];
        final Shoal[] shoals = new Shoal[SHOALS];
        final int[] strength = new int[HEIGHTS * HOURS];
        final int[] drift = new int[HEIGHTS * HOURS];
        int law;
        int stock = FIRST_STOCK;
        int fog;
        int gulls;

        Sea() {
            for (int k = 0; k < KITES; k++) {
                kites[k] = new Kite();
            }
            for (int s = 0; s < SHOALS; s++) {
                shoals[s] = new Shoal();
            }
        }

        /** Does a line; its numbers are within their bounds. */
        void tell(int word, int[] n) {
            switch (word) {
                case WIND: tellWind(n); break;
                case KITE: tellKite(n); break;
                case SHOAL: tellShoal(n); break;
                case LAW: law = n[0]; break;
                case STOCK: stock = n[0]; break;
                case FOG: tellFog(n[0], n[1]); break;
                case GULLS: gulls = n[0]; break;
                case CALM: tellCalm(); break;
                default: tellLost(n[0]); break;
            }
        }

        void tellWind(int[] n) {
            if (!isHeight(n[0])) {
                return;
            }
            int row = (n[0] - 1) * HOURS;
            for (int hour = 0; hour < HOURS; hour++) {
                if (hour >= n[1] && hour <= n[2]) {
                    strength[row + hour] = n[3];
                    drift[row + hour] = n[4] - DRIFT_SHIFT;
                }
            }
        }

        void tellKite(int[] n) {
            if (n[0] < 0 || n[0] >= KITES) {
                return;
            }
            Kite kite = kites[n[0]];
            kite.told = true;
            kite.post = n[1];
            kite.size = n[2];
            kite.string = n[3];
            kite.net = n[4];
            kite.clan = n[5];
        }

        void tellShoal(int[] n) {
            if (n[0] < 0 || n[0] >= SHOALS) {
                return;
            }
            Shoal shoal = shoals[n[0]];
            shoal.told = true;
            shoal.x = n[1];
            shoal.y = n[2];
            shoal.moveX = n[3] - MOVE_SHIFT;
            shoal.moveY = n[4] - MOVE_SHIFT;
            shoal.many = n[5];
        }

        void tellFog(int from, int to) {
            for (int hour = 0; hour < HOURS; hour++) {
                if (hour >= from && hour <= to) {
                    fog |= 1 << hour;
                }
            }
        }

        void tellCalm() {
            Arrays.fill(strength, 0);
            Arrays.fill(drift, 0);
            fog = 0;
            gulls = 0;
        }

        void tellLost(int kite) {
            if (kite >= 0 && kite < KITES) {
                kites[kite].told = false;
            }
        }

        /** Strength or drift at a height in an hour. */
        static int windAt(int[] wind, int height, int hour) {
            int i = (height - 1) * HOURS + hour;
            return i >= 0 && i < wind.length ? wind[i] : 0;
        }

        boolean isToldKite(int kite) {
            return kite >= 0 && kite < KITES && kites[kite].told;
        }

        boolean isToldShoal(int shoal) {
            return shoal >= 0 && shoal < SHOALS && shoals[shoal].told;
        }

        boolean isFoggy(int hour) {
            return isIn(fog, hour);
        }

        int kiteBits() {
            int bits = 0;
            for (int k = 0; k < KITES; k++) {
                bits |= kites[k].told ? 1 << k : 0;
            }
            return bits;
        }

        int shoalBits() {
            int bits = 0;
            for (int s = 0; s < SHOALS; s++) {
                bits |= shoals[s].told ? 1 << s : 0;
            }
            return bits;
        }

        int shoalX(int shoal, int hour) {
            return isToldShoal(shoal) ? shoals[shoal].x + hour * shoals[shoal].moveX : NONE;
        }

        int shoalY(int shoal, int hour) {
            return isToldShoal(shoal) ? shoals[shoal].y + hour * shoals[shoal].moveY : NONE;
        }

        int kiteX(int kite, int height, int hour) {
            return isToldKite(kite) ? kites[kite].post + windAt(drift, height, hour) * kites[kite].string / DRIFT_PART : NONE;
        }

        int kiteY(int kite, int height) {
            return isToldKite(kite) ? kites[kite].string - height : NONE;
        }

        boolean isInSea(int kite, int height, int hour) {
            int x = kiteX(kite, height, hour);
            int y = kiteY(kite, height);
            return x >= 0 && x <= SEA_RIGHT && y >= SEA_NEAR && y <= SEA_FAR;
        }

        boolean hasLift(int kite, int height, int hour) {
            return isToldKite(kite) && kites[kite].size * windAt(strength, height, hour) >= kites[kite].net;
        }

        boolean wouldCross(int one, int other, int height, int hour) {
            if (!isToldKite(one) || !isToldKite(other)) {
                return false;
            }
            int posts = kites[one].post - kites[other].post;
            int apart = kiteX(one, height, hour) - kiteX(other, height, hour);
            if (posts == 0) {
                return true;
            }
            return posts < 0 ? apart >= 0 : apart <= 0;
        }

        /** Which of two gives way by a law, the lower number told first. */
        int givingWay(int lower, int higher, int byLaw) {
            if (!isToldKite(lower) || !isToldKite(higher)) {
                return higher;
            }
            boolean lowerBySize = kites[lower].size < kites[higher].size;
            boolean lowerByClan = kites[lower].clan > kites[higher].clan;
            boolean isLower = byLaw == BY_SIZE && lowerBySize || byLaw == BY_CLAN && lowerByClan;
            return isLower ? lower : higher;
        }

        /** What the gulls leave of the fish that one kite took in one hour. */
        int afterGulls(int took) {
            return gulls > 0 ? took - took / gulls : took;
        }

        int shareOf(int n, int kite) {
            int all = 0;
            for (int k = 0; k < KITES; k++) {
                all += isToldKite(k) ? kites[k].string : 0;
            }
            if (all <= 0 || !isToldKite(kite)) {
                return 0;
            }
            int rest = n * kites[kite].string % all;
            int left = n;
            int ahead = 0;
            for (int k = 0; k < KITES; k++) {
                if (isToldKite(k)) {
                    int itsRest = n * kites[k].string % all;
                    left -= n * kites[k].string / all;
                    ahead += itsRest > rest || itsRest == rest && k < kite ? 1 : 0;
                }
            }
            return n * kites[kite].string / all + (ahead < left ? 1 : 0);
        }
    }

    /** What follows from the sea for each kite, height and hour, drawn once behind each text. */
    private static final class Chart {
        /** By kite and height: the hours in which nothing hinders it, by bits. */
        final int[] freeHours = new int[KITES * CHOICES];
        /** By kite, height and hour: the shoals at its cell, by bits. */
        final int[] shoalsMet = new int[KITES * CHOICES * HOURS];
        /** By kite, height and hour: the kites of greater number that it would cross there, by bits. */
        final int[] kitesCrossed = new int[KITES * CHOICES * HOURS];

        void draw(Sea sea) {
            for (int k = 0; k < KITES; k++) {
                for (int height = 1; height < CHOICES; height++) {
                    drawKite(sea, k, height);
                }
            }
        }

        void drawKite(Sea sea, int kite, int height) {
            int row = kite * CHOICES + height;
            int free = 0;
            for (int hour = 0; hour < HOURS; hour++) {
                boolean isFree = sea.isInSea(kite, height, hour) && sea.hasLift(kite, height, hour);
                free |= isFree ? 1 << hour : 0;
                shoalsMet[row * HOURS + hour] = isFree ? shoalsAt(sea, kite, height, hour) : 0;
                kitesCrossed[row * HOURS + hour] = isFree ? kitesAcross(sea, kite, height, hour) : 0;
            }
            freeHours[row] = free;
        }

        static int shoalsAt(Sea sea, int kite, int height, int hour) {
            int x = sea.kiteX(kite, height, hour);
            int y = sea.kiteY(kite, height);
            int bits = 0;
            for (int s = 0; s < SHOALS; s++) {
                boolean isHere = sea.isToldShoal(s) && sea.shoalX(s, hour) == x && sea.shoalY(s, hour) == y;
                bits |= isHere ? 1 << s : 0;
            }
            return bits;
        }

        static int kitesAcross(Sea sea, int kite, int height, int hour) {
            int bits = 0;
            for (int other = kite + 1; other < KITES; other++) {
                bits |= sea.wouldCross(kite, other, height, hour) ? 1 << other : 0;
            }
            return bits;
        }

        boolean isFree(int kite, int height, int hour) {
            int i = kite * CHOICES + height;
            return i >= 0 && i < KITES * CHOICES && isIn(freeHours[i], hour);
        }

        int met(int kite, int height, int hour) {
            int i = (kite * CHOICES + height) * HOURS + hour;
            return i >= 0 && i < KITES * CHOICES * HOURS ? shoalsMet[i] : 0;
        }

        int crossed(int kite, int height, int hour) {
            int i = (kite * CHOICES + height) * HOURS + hour;
            return i >= 0 && i < KITES * CHOICES * HOURS ? kitesCrossed[i] : 0;
        }
    }

    /** A day as far as it has gone. */
    private static final class Day {
        int hours;
        /** The kites that were up in the last hour, by bits. */
        int up;
        int caught;
        int gullsHave;
        int takings;
        final int[] asked = new int[KITES];
        final int[] catches = new int[KITES];
        final int[] upHours = new int[KITES];
        final int[] gaveWay = new int[KITES];
        final int[] left = new int[SHOALS];
        /** Each taking in one number: kite, shoal, hour in four bits each, how many above them. */
        final int[] notes = new int[MOST_TAKINGS];

        /** Fills a day in which no hour has gone. */
        void stockShoals(Sea sea) {
            for (int s = 0; s < SHOALS; s++) {
                left[s] = sea.isToldShoal(s) ? sea.shoals[s].many : 0;
            }
        }

        void become(Day other) {
            resume(other);
            caught = other.caught;
            gullsHave = other.gullsHave;
            takings = other.takings;
            System.arraycopy(other.asked, 0, asked, 0, KITES);
            System.arraycopy(other.catches, 0, catches, 0, KITES);
            System.arraycopy(other.upHours, 0, upHours, 0, KITES);
            System.arraycopy(other.gaveWay, 0, gaveWay, 0, KITES);
            System.arraycopy(other.notes, 0, notes, 0, MOST_TAKINGS);
        }

        /** Takes over only what the coming hours depend on, and counts the catch from there. */
        void resume(Day other) {
            hours = other.hours;
            up = other.up;
            caught = 0;
            gullsHave = 0;
            takings = 0;
            System.arraycopy(other.left, 0, left, 0, SHOALS);
        }

        void pass(int n, Sea sea, Chart chart, int law) {
            for (int i = 0; i < n && hours < HOURS; i++) {
                up = untangled(risen(sea, chart), sea, chart, law);
                for (int k = 0; k < KITES; k++) {
                    if (isIn(up, k)) {
                        upHours[k]++;
                        fish(k, sea, chart);
                    }
                }
                hours++;
            }
        }

        /** The kites that are up ahead of tangles, by bits. */
        int risen(Sea sea, Chart chart) {
            boolean foggy = sea.isFoggy(hours);
            int rising = 0;
            int string = 0;
            for (int k = 0; k < KITES; k++) {
                if (!chart.isFree(k, asked[k], hours) || foggy && !isIn(up, k)) {
                    continue;
                }
                int longer = string + sea.kites[k].string;
                if (longer <= sea.stock) {
                    string = longer;
                    rising |= 1 << k;
                }
            }
            return rising;
        }

        /** The kites that are still up when the others have given way, by bits. */
        int untangled(int rising, Sea sea, Chart chart, int law) {
            int still = rising;
            for (int one = 0; one < KITES; one++) {
                int across = isIn(still, one) ? chart.crossed(one, asked[one], hours) : 0;
                for (int other = one + 1; other < KITES && across >> other != 0; other++) {
                    boolean bothUp = isIn(still, one) && isIn(still, other);
                    if (bothUp && isIn(across, other) && asked[one] == asked[other]) {
                        int loser = sea.givingWay(one, other, law);
                        still &= ~(1 << loser);
                        gaveWay[loser]++;
                    }
                }
            }
            return still;
        }

        void fish(int kite, Sea sea, Chart chart) {
            int met = chart.met(kite, asked[kite], hours);
            if (met == 0) {
                return;
            }
            int room = FISH_BY_NET * sea.kites[kite].net;
            int took = 0;
            for (int s = 0; s < SHOALS; s++) {
                int many = isIn(met, s) ? Math.min(left[s], room - took) : 0;
                if (many > 0) {
                    left[s] -= many;
                    took += many;
                    note(kite, s, many);
                }
            }
            int rest = sea.afterGulls(took);
            catches[kite] += rest;
            caught += rest;
            gullsHave += took - rest;
        }

        int fishIn(int shoalBits) {
            int fish = 0;
            for (int s = 0; s < SHOALS; s++) {
                fish += isIn(shoalBits, s) ? left[s] : 0;
            }
            return fish;
        }

        void note(int kite, int shoal, int many) {
            if (takings < MOST_TAKINGS) {
                notes[takings] = ((many << NOTE_BITS | hours) << NOTE_BITS | shoal) << NOTE_BITS | kite;
                takings++;
            }
        }
    }

    /** The heights by which most is caught, kept until what they depend on changes. */
    private static final class Search {
        /** All heights for all kites as one number, the first kite's uppermost. */
        static final int PLANS = 1 << 2 * KITES;

        boolean found;
        int most;
        int plan;
        /** By kite and height: no more than this can its catch be; NONE: it would never be up. */
        final int[] bound = new int[KITES * CHOICES];
        /** By kite: the sum of the greatest bounds of this one and all behind it. */
        final int[] boundBehind = new int[KITES + 1];

        void forget() {
            found = false;
        }

        int heightOf(int kite) {
            return heightIn(plan, kite);
        }

        static int heightIn(int somePlan, int kite) {
            return kite >= 0 && kite < KITES ? somePlan >> shiftOf(kite) & CHOICES - 1 : 0;
        }

        static int shiftOf(int kite) {
            return 2 * (KITES - 1 - kite);
        }

        void find(Day start, int hours, Day trial, Sea sea, Chart chart) {
            if (found) {
                return;
            }
            setBounds(start, hours, sea, chart);
            most = NONE;
            int next = 0;
            for (int i = 0; i < PLANS && next < PLANS; i++) {
                int kite = firstHopeless(next);
                if (kite < KITES) {
                    // no other plan with the same heights up to this kite need be tried
                    next = (next >> shiftOf(kite)) + 1 << shiftOf(kite);
                } else {
                    tryPlan(next, start, hours, trial, sea, chart);
                    next++;
                }
            }
            found = true;
        }

        void tryPlan(int next, Day start, int hours, Day trial, Sea sea, Chart chart) {
            trial.resume(start);
            for (int k = 0; k < KITES; k++) {
                trial.asked[k] = heightIn(next, k);
            }
            trial.pass(hours, sea, chart, sea.law);
            if (trial.caught > most) {
                most = trial.caught;
                plan = next;
            }
        }

        /** The first kite whose height, with those ahead of it, cannot lead to more than is found; KITES if none. */
        int firstHopeless(int next) {
            int sum = 0;
            for (int k = 0; k < KITES; k++) {
                int own = bound[k * CHOICES + heightIn(next, k)];
                sum += own;
                // a kite that is never up is as at height 0, and that plan comes first
                if (own == NONE || sum + boundBehind[k + 1] <= most) {
                    return k;
                }
            }
            return KITES;
        }

        void setBounds(Day start, int hours, Sea sea, Chart chart) {
            boundBehind[KITES] = 0;
            for (int k = KITES - 1; k >= 0; k--) {
                int greatest = 0;
                bound[k * CHOICES] = 0;
                for (int height = 1; height < CHOICES; height++) {
                    int own = boundOf(k, height, start, hours, sea, chart);
                    bound[k * CHOICES + height] = own;
                    greatest = Math.max(greatest, own);
                }
                boundBehind[k] = boundBehind[k + 1] + greatest;
            }
        }

        /**
         * What a kite alone would catch, had each shoal in each hour all the fish it has at the start,
         * but no more than all the shoals that it meets have.
         */
        static int boundOf(int kite, int height, Day start, int hours, Sea sea, Chart chart) {
            boolean isUp = isIn(start.up, kite);
            boolean wasUp = false;
            int sum = 0;
            int metAtAll = 0;
            int net = FISH_BY_NET * sea.kites[kite].net;
            for (int i = 0; i < hours && start.hours + i < HOURS; i++) {
                int hour = start.hours + i;
                isUp = chart.isFree(kite, height, hour) && (isUp || !sea.isFoggy(hour))
                    && sea.kites[kite].string <= sea.stock;
                if (isUp) {
                    int met = chart.met(kite, height, hour);
                    wasUp = true;
                    metAtAll |= met;
                    sum += sea.afterGulls(Math.min(start.fishIn(met), net));
                }
            }
            return wasUp ? Math.min(sum, start.fishIn(metAtAll)) : NONE;
        }
    }

    /** Weights of what may come, in a row that is used again. */
    private static final class Odds {
        final long[] weights = new long[X_SPAN];
        final long[] drifted = new long[X_SPAN];

        void begin(int place) {
            Arrays.fill(weights, 0L);
            if (place >= 0 && place < X_SPAN) {
                weights[place] = 1;
            }
        }

        /** The weight, out of 10 to the n-th, of the cases with enough food on each of n days. */
        long enough(int f, int e, int c, int p, int n) {
            begin(0);
            for (int days = 1; days <= n && days < X_SPAN; days++) {
                // by how many days were not calm, downwards, since a weight comes from the one below
                for (int windy = days; windy >= 0; windy--) {
                    long ways = weights[windy] * p;
                    if (windy > 0) {
                        ways += weights[windy - 1] * (TENTHS - p);
                    }
                    weights[windy] = f + c * windy - e * days >= 0 ? ways : 0;
                }
            }
            return sumFrom(0);
        }

        void drift(int by, int p) {
            for (int i = 0; i < X_SPAN; i++) {
                int from = i - by;
                long comes = from >= 0 && from < X_SPAN ? weights[from] : 0;
                drifted[i] = weights[i] * (TENTHS - p) + comes * p;
            }
            System.arraycopy(drifted, 0, weights, 0, X_SPAN);
        }

        long sumFrom(int place) {
            long sum = 0;
            for (int i = Math.max(place, 0); i < X_SPAN; i++) {
                sum += weights[i];
            }
            return sum;
        }
    }
}
