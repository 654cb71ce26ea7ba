import java.math.BigInteger;
import java.util.ArrayList;
import java.util.Arrays;
import java.util.List;
import java.util.TreeMap;

/** The document in its most literal form, without tables, bounds or answers that are kept. */
final class PlainModel {
    private static final int NONE = -1, UNKNOWN = -2, OUTSIDE = -3, NOT = -4, FULL = -5;

    /** One day, with shoals that are moved hour by hour. */
    private static final class State {
        int hours;
        int[] asked = new int[6];
        boolean[] up = new boolean[6];
        int[] caught = new int[6];
        int[] upHours = new int[6];
        int[] gaveWay = new int[6];
        int[][] shoals = new int[4][];
        List<int[]> takings = new ArrayList<>();
        int gullsHave;

        State copy() {
            State s = new State();
            s.hours = hours;
            s.asked = asked.clone();
            s.up = up.clone();
            s.caught = caught.clone();
            s.upHours = upHours.clone();
            s.gaveWay = gaveWay.clone();
            for (int i = 0; i < 4; i++) {
                s.shoals[i] = shoals[i] == null ? null : shoals[i].clone();
            }
            s.takings = new ArrayList<>(takings);
            s.gullsHave = gullsHave;
            return s;
        }

        int all() {
            return Arrays.stream(caught).sum();
        }
    }

    /** A token: where it begins, what it is. */
    private record Token(int at, String word) { }

    private final StringBuilder text = new StringBuilder();
    private int[][] kites = new int[6][];
    private int[][] shoals = new int[4][];
    private int[][] strength = new int[4][12];
    private int[][] drift = new int[4][12];
    private int law = 0;
    private int stock = 30;
    private boolean[] fog = new boolean[12];
    private int gulls = 0;
    private State now = new State();
    private final State[] kept = new State[2];

    int write(long bytes, int n) {
        if (n < 1 || n > 8) {
            return OUTSIDE;
        }
        if (text.length() + n > 200) {
            return FULL;
        }
        for (int i = 0; i < n; i++) {
            text.append((char) (bytes >> 8 * i & 255));
        }
        return text.length();
    }

    int erase() {
        int had = text.length();
        text.setLength(0);
        return had;
    }

    private List<Token> tokens() {
        List<Token> list = new ArrayList<>();
        int i = 0;
        while (i < text.length()) {
            String rest = text.substring(i);
            if (rest.charAt(0) == ' ') {
                i++;
                continue;
            }
            String word = rest.substring(0, 1);
            if (word.matches("[a-z]")) {
                word = rest.split("[^a-z]", 2)[0];
            } else if (word.matches("[0-9]")) {
                word = rest.split("[^0-9]", 2)[0];
            }
            list.add(new Token(i, word));
            i += word.length();
        }
        return list;
    }

    private static int[][] boundsOf(String word) {
        return switch (word) {
            case "wind" -> new int[][] {{1, 3}, {0, 11}, {0, 11}, {0, 9}, {0, 6}};
            case "kite" -> new int[][] {{0, 5}, {0, 9}, {1, 5}, {1, 9}, {0, 9}, {0, 2}};
            case "shoal" -> new int[][] {{0, 3}, {0, 9}, {1, 6}, {0, 2}, {0, 2}, {0, 99}};
            case "law" -> new int[][] {{0, 2}};
            case "stock" -> new int[][] {{0, 99}};
            case "fog" -> new int[][] {{0, 11}, {0, 11}};
            case "gulls" -> new int[][] {{0, 9}};
            case "calm" -> new int[][] {};
            case "lost" -> new int[][] {{0, 5}};
            default -> null;
        };
    }

    /** Reads the tokens; lines are added to the list; answers the fault's place. */
    private int parse(List<Object[]> lines) {
        List<Token> tokens = tokens();
        int i = 0;
        while (true) {
            if (i == tokens.size()) {
                return text.length();
            }
            String word = tokens.get(i).word();
            int[][] bounds = boundsOf(word);
            if (bounds == null) {
                return tokens.get(i).at();
            }
            i++;
            int[] numbers = new int[bounds.length];
            for (int j = 0; j < bounds.length; j++, i++) {
                if (i == tokens.size()) {
                    return text.length();
                }
                Token token = tokens.get(i);
                if (!token.word().matches("[0-9]{1,2}")) {
                    return token.at();
                }
                numbers[j] = Integer.parseInt(token.word());
                boolean isLastHour = word.equals("wind") && j == 2 || word.equals("fog") && j == 1;
                if (numbers[j] < bounds[j][0] || numbers[j] > bounds[j][1] || isLastHour && numbers[j] < numbers[j - 1]) {
                    return token.at();
                }
            }
            lines.add(new Object[] {word, numbers});
            if (i == tokens.size()) {
                return NONE;
            }
            if (!tokens.get(i).word().equals(";") || lines.size() == 10) {
                return tokens.get(i).at();
            }
            i++;
        }
    }

    int fault() {
        return parse(new ArrayList<>());
    }

    int cliff() {
        List<Object[]> lines = new ArrayList<>();
        if (parse(lines) != NONE) {
            return NOT;
        }
        for (Object[] line : lines) {
            tell((String) line[0], (int[]) line[1]);
        }
        text.setLength(0);
        kept[0] = null;
        kept[1] = null;
        now = begin();
        return lines.size();
    }

    private State begin() {
        State s = new State();
        for (int i = 0; i < 4; i++) {
            s.shoals[i] = shoals[i] == null ? null : new int[] {shoals[i][1], shoals[i][2], shoals[i][5]};
        }
        return s;
    }

    private void tell(String word, int[] n) {
        switch (word) {
            case "wind" -> {
                for (int t = n[1]; t <= n[2]; t++) {
                    strength[n[0]][t] = n[3];
                    drift[n[0]][t] = n[4] - 3;
                }
            }
            case "kite" -> kites[n[0]] = n;
            case "shoal" -> shoals[n[0]] = n;
            case "law" -> law = n[0];
            case "stock" -> stock = n[0];
            case "fog" -> Arrays.fill(fog, n[0], n[1] + 1, true);
            case "gulls" -> gulls = n[0];
            case "calm" -> {
                strength = new int[4][12];
                drift = new int[4][12];
                fog = new boolean[12];
                gulls = 0;
            }
            default -> kites[n[0]] = null;
        }
    }

    private boolean told(int kite) {
        return kite >= 0 && kite < 6 && kites[kite] != null;
    }

    private static boolean isHeight(int height) {
        return height >= 1 && height <= 3;
    }

    private static boolean isHour(int hour) {
        return hour >= 0 && hour <= 11;
    }

    int wind(int height, int hour, int what) {
        if (!isHeight(height) || !isHour(hour)) {
            return UNKNOWN;
        }
        return what == 0 ? strength[height][hour] : what == 1 ? drift[height][hour] + 3 : OUTSIDE;
    }

    int shoal(int shoal, int what) {
        if (shoal < 0 || shoal > 3 || shoals[shoal] == null) {
            return UNKNOWN;
        }
        if (what < 0 || what > 2) {
            return OUTSIDE;
        }
        return now.shoals[shoal][what] + (what < 2 ? 100 : 0);
    }

    int ask(int kite, int height) {
        if (!told(kite)) {
            return UNKNOWN;
        }
        if (height < 0 || height > 3) {
            return OUTSIDE;
        }
        int was = now.asked[kite];
        now.asked[kite] = height;
        return was;
    }

    private int x(int kite, int height, int hour) {
        return kites[kite][1] + (int) (drift[height][hour] * kites[kite][3] / 3.0);
    }

    private int y(int kite, int height) {
        return kites[kite][3] - height;
    }

    private int cell(int kite, int height, int hour) {
        int x = x(kite, height, hour);
        int y = y(kite, height);
        return x < 0 || x > 9 || y < 1 || y > 6 ? NONE : 10 * y + x;
    }

    private int giver(int one, int other, int height, int hour, int byLaw) {
        int a = kites[one][1] <= kites[other][1] ? one : other;
        int b = a == one ? other : one;
        boolean alike = kites[a][1] == kites[b][1];
        if (!alike && x(a, height, hour) < x(b, height, hour)) {
            return NONE;
        }
        if (byLaw == 0 && kites[a][2] != kites[b][2]) {
            return kites[a][2] < kites[b][2] ? a : b;
        }
        if (byLaw == 1 && kites[a][5] != kites[b][5]) {
            return kites[a][5] > kites[b][5] ? a : b;
        }
        return Math.max(a, b);
    }

    private void hour(State s, int byLaw) {
        int t = s.hours;
        boolean[] up = new boolean[6];
        int string = 0;
        for (int k = 0; k < 6; k++) {
            if (!told(k) || s.asked[k] == 0) {
                continue;
            }
            int h = s.asked[k];
            boolean rises = kites[k][2] * strength[h][t] >= kites[k][4] && cell(k, h, t) != NONE
                && (!fog[t] || t > 0 && s.up[k]) && string + kites[k][3] <= stock;
            if (rises) {
                up[k] = true;
                string += kites[k][3];
            }
        }
        for (int i = 0; i < 6; i++) {
            for (int j = i + 1; j < 6; j++) {
                if (up[i] && up[j] && s.asked[i] == s.asked[j]) {
                    int giver = giver(i, j, s.asked[i], t, byLaw);
                    if (giver != NONE) {
                        up[giver] = false;
                        s.gaveWay[giver]++;
                    }
                }
            }
        }
        for (int k = 0; k < 6; k++) {
            if (up[k]) {
                s.upHours[k]++;
                take(s, k);
            }
        }
        for (int i = 0; i < 4; i++) {
            if (shoals[i] != null) {
                s.shoals[i][0] += shoals[i][3] - 1;
                s.shoals[i][1] += shoals[i][4] - 1;
            }
        }
        s.up = up;
        s.hours++;
    }

    private void take(State s, int k) {
        int took = 0;
        int cell = cell(k, s.asked[k], s.hours);
        for (int i = 0; i < 4; i++) {
            int[] shoal = s.shoals[i];
            if (shoal == null || shoal[0] != cell % 10 || shoal[1] != cell / 10) {
                continue;
            }
            int many = Math.min(shoal[2], 3 * kites[k][4] - took);
            if (many > 0) {
                shoal[2] -= many;
                took += many;
                s.takings.add(new int[] {k, i, s.hours, many});
            }
        }
        int lost = gulls == 0 ? 0 : took / gulls;
        s.gullsHave += lost;
        s.caught[k] += took - lost;
    }

    int go(int n) {
        if (n < 1 || n > 12) {
            return OUTSIDE;
        }
        for (int i = 0; i < n && now.hours < 12; i++) {
            hour(now, law);
        }
        return now.hours;
    }

    int kite(int kite, int what) {
        if (!told(kite)) {
            return UNKNOWN;
        }
        return switch (what) {
            case 0 -> now.up[kite] ? 1 : 0;
            case 1 -> now.asked[kite];
            case 2 -> now.caught[kite];
            case 3 -> now.upHours[kite];
            case 4 -> now.gaveWay[kite];
            default -> OUTSIDE;
        };
    }

    int where(int kite, int height, int hour) {
        return !told(kite) || !isHeight(height) || !isHour(hour) ? UNKNOWN : cell(kite, height, hour);
    }

    int hinders(int kite, int height, int hour) {
        if (!told(kite) || !isHeight(height) || !isHour(hour)) {
            return UNKNOWN;
        }
        if (cell(kite, height, hour) == NONE) {
            return 2;
        }
        return kites[kite][2] * strength[height][hour] < kites[kite][4] ? 1 : 0;
    }

    int tangle(int one, int other, int height, int hour) {
        if (!told(one) || !told(other) || !isHeight(height) || !isHour(hour)) {
            return UNKNOWN;
        }
        return one == other ? OUTSIDE : giver(one, other, height, hour, law);
    }

    int taking(int i, int what) {
        if (i < 0 || what < 0 || what > 3) {
            return OUTSIDE;
        }
        return i < now.takings.size() ? now.takings.get(i)[what] : NONE;
    }

    int keep(int k) {
        if (k != 0 && k != 1) {
            return UNKNOWN;
        }
        kept[k] = now.copy();
        return now.hours;
    }

    int back(int k) {
        if (k != 0 && k != 1) {
            return UNKNOWN;
        }
        if (kept[k] == null) {
            return NOT;
        }
        now = kept[k].copy();
        return now.hours;
    }

    /** Tries all heights in the order of the document; the most first, then a height for each kite. */
    private int[] search(State from, int hours) {
        int[] found = new int[7];
        found[0] = -1;
        for (int code = 0; code < 4096; code++) {
            State s = from.copy();
            boolean fits = true;
            for (int k = 0; k < 6; k++) {
                s.asked[k] = code >> 2 * (5 - k) & 3;
                fits &= told(k) || s.asked[k] == 0;
            }
            if (!fits) {
                continue;
            }
            for (int i = 0; i < hours; i++) {
                hour(s, law);
            }
            int more = s.all() - from.all();
            if (more > found[0]) {
                found[0] = more;
                System.arraycopy(s.asked, 0, found, 1, 6);
            }
        }
        return found;
    }

    int best(int kite) {
        if (kite != NONE && !told(kite)) {
            return UNKNOWN;
        }
        return now.hours == 12 ? NOT : search(now, 1)[kite + 1];
    }

    int allDay(int kite) {
        return kite != NONE && !told(kite) ? UNKNOWN : search(begin(), 12)[kite + 1];
    }

    int laws(int what) {
        if (what < 0 || what > 1) {
            return OUTSIDE;
        }
        int[] sums = new int[3];
        for (int l = 0; l < 3; l++) {
            State s = begin();
            s.asked = now.asked.clone();
            for (int i = 0; i < 12; i++) {
                hour(s, l);
            }
            sums[l] = s.all();
        }
        int most = Math.max(sums[0], Math.max(sums[1], sums[2]));
        return what == 1 ? most : sums[0] == most ? 0 : sums[1] == most ? 1 : 2;
    }

    private static long lowest(BigInteger above, BigInteger below, int part) {
        BigInteger divisor = above.gcd(below);
        return (part == 0 ? above : below).divide(divisor).longValueExact();
    }

    long food(int f, int e, int c, int p, int n, int part) {
        if (f < 0 || f > 999 || e < 1 || e > 99 || c < 0 || c > 99 || p < 0 || p > 10 || n < 0 || n > 8 || part < 0 || part > 1) {
            return OUTSIDE;
        }
        BigInteger above = BigInteger.ZERO;
        for (int calm = 0; calm < 1 << n; calm++) {
            int fish = f;
            boolean enough = true;
            for (int day = 0; day < n && enough; day++) {
                fish += (calm >> day & 1) == 1 ? 0 : c;
                enough = fish >= e;
                fish -= e;
            }
            if (enough) {
                int calms = Integer.bitCount(calm);
                above = above.add(BigInteger.valueOf(p).pow(calms).multiply(BigInteger.valueOf(10 - p).pow(n - calms)));
            }
        }
        return lowest(above, BigInteger.TEN.pow(n), part);
    }

    long cut(int kite, int hour, int m, int p, int part) {
        if (!told(kite) || !isHour(hour)) {
            return UNKNOWN;
        }
        if (m < 0 || m > 40 || p < 0 || p > 10 || part < 0 || part > 1) {
            return OUTSIDE;
        }
        int height = now.asked[kite];
        if (height == 0) {
            return NOT;
        }
        TreeMap<Integer, BigInteger> odds = new TreeMap<>();
        odds.put(x(kite, height, hour), BigInteger.ONE);
        for (int t = hour; t < 12; t++) {
            TreeMap<Integer, BigInteger> next = new TreeMap<>();
            for (int x : odds.keySet()) {
                next.merge(x, odds.get(x).multiply(BigInteger.valueOf(10 - p)), BigInteger::add);
                next.merge(x + drift[height][t], odds.get(x).multiply(BigInteger.valueOf(p)), BigInteger::add);
            }
            odds = next;
        }
        BigInteger above = BigInteger.ZERO;
        for (BigInteger weight : odds.tailMap(m).values()) {
            above = above.add(weight);
        }
        return lowest(above, BigInteger.TEN.pow(12 - hour), part);
    }

    int share(int n, int kite) {
        if (!told(kite)) {
            return UNKNOWN;
        }
        if (n < 0 || n > 999) {
            return OUTSIDE;
        }
        int all = 0;
        List<Integer> order = new ArrayList<>();
        for (int k = 0; k < 6; k++) {
            if (told(k)) {
                all += kites[k][3];
                order.add(k);
            }
        }
        int sum = all;
        int left = n;
        for (int k : order) {
            left -= n * kites[k][3] / sum;
        }
        order.sort((a, b) -> n * kites[b][3] % sum - n * kites[a][3] % sum);
        return n * kites[kite][3] / sum + (order.indexOf(kite) < left ? 1 : 0);
    }

    int count(int what) {
        int kiteBits = 0;
        int shoalBits = 0;
        int fogBits = 0;
        for (int i = 0; i < 12; i++) {
            kiteBits += i < 6 && kites[i] != null ? 1 << i : 0;
            shoalBits += i < 4 && shoals[i] != null ? 1 << i : 0;
            fogBits += fog[i] ? 1 << i : 0;
        }
        return switch (what) {
            case 0 -> kiteBits;
            case 1 -> shoalBits;
            case 2 -> law;
            case 3 -> stock;
            case 4 -> fogBits;
            case 5 -> gulls;
            case 6 -> now.hours;
            case 7 -> now.takings.size();
            case 8 -> now.all();
            case 9 -> now.gullsHave;
            case 10 -> text.length();
            default -> OUTSIDE;
        };
    }
}
