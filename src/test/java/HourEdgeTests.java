/** Promises 6 to 16: each sentence that names a boundary of an hour, or of a call that asks about one, by itself. */
final class HourEdgeTests {
    private static final int NONE = -1, UNKNOWN = -2, OUTSIDE = -3, NOT = -4;
    private static final int LOW = Integer.MIN_VALUE, HIGH = Integer.MAX_VALUE;
    private static final int[] NO_KITES = {LOW, -2, -1, 6, 7, HIGH};
    private static final int[] NO_HEIGHTS = {LOW, -1, 0, 4, HIGH};
    private static final int[] NO_HOURS = {LOW, -1, 12, 13, HIGH};
    private static final Sentences DOC = new Sentences();

    private static void due(String call, long got, long want) {
        DOC.due(call, got, want);
    }

    public static void main(String[] args) {
        wind();
        shoalNumbers();
        shoalPlaces();
        ask();
        goBounds();
        upAsked();
        upLift();
        upSea();
        upDrift();
        upFog();
        upFogBehind();
        upStock();
        tangleWhere();
        tangleEach();
        tangleOrder();
        tangleLaws();
        takeNets();
        takeOrder();
        takeGulls();
        shoalsMove();
        kite();
        where();
        hinders();
        tangleCall();
        tangleRefused();
        taking();
        takingMany();
        keep();
        keepAll();
        keepEach();
        back();
        DOC.end(6, 16);
    }

    private static FishingKites asked(FishingKites x, int... heights) {
        for (int k = 0; k < heights.length; k++) {
            x.ask(k, heights[k]);
        }
        return x;
    }

    /** Who is up behind one hour, by bits, when kites are asked for these heights. */
    private static int upBits(FishingKites x, int... heights) {
        asked(x, heights).go(1);
        int bits = 0;
        for (int k = 0; k < heights.length; k++) {
            bits |= x.kite(k, 0) == 1 ? 1 << k : 0;
        }
        return bits;
    }

    private static void wind() {
        FishingKites x = Checks.told("wind 1 0 0 9 0;wind 1 11 11 1 6;wind 3 0 0 2 1;wind 3 11 11 8 5");
        DOC.says(6, "STRENGTH (what 0)");
        due("wind(1, 0, 0)", x.wind(1, 0, 0), 9);
        due("wind(1, 11, 0)", x.wind(1, 11, 0), 1);
        due("wind(2, 0, 0)", x.wind(2, 0, 0), 0);
        due("wind(3, 0, 0)", x.wind(3, 0, 0), 2);
        due("wind(3, 11, 0)", x.wind(3, 11, 0), 8);
        DOC.says(6, "DRIFT and 3 (1)");
        due("wind(1, 0, 1)", x.wind(1, 0, 1), 0);
        due("wind(1, 11, 1)", x.wind(1, 11, 1), 6);
        due("wind(2, 0, 1)", x.wind(2, 0, 1), 3);
        due("wind(3, 0, 1)", x.wind(3, 0, 1), 1);
        due("wind(3, 11, 1)", x.wind(3, 11, 1), 5);
        DOC.says(6, "UNKNOWN: no such HEIGHT (1 .. 3)");
        for (int bad : NO_HEIGHTS) {
            due("wind(" + bad + ", 0, 0)", x.wind(bad, 0, 0), UNKNOWN);
        }
        DOC.says(6, "UNKNOWN: no such HOUR (0 .. 11)");
        for (int bad : NO_HOURS) {
            due("wind(1, " + bad + ", 0)", x.wind(1, bad, 0), UNKNOWN);
            due("wind(3, " + bad + ", 1)", x.wind(3, bad, 1), UNKNOWN);
        }
        DOC.says(6, "OUTSIDE: what 0, 1");
        for (int bad : new int[] {LOW, -1, 2, HIGH}) {
            due("wind(1, 0, " + bad + ")", x.wind(1, 0, bad), OUTSIDE);
        }
        DOC.says(6, "UNKNOWN; OUTSIDE: the first of these that fits");
        due("height and what", x.wind(0, 0, 2), UNKNOWN);
        due("hour and what", x.wind(1, 12, 2), UNKNOWN);
        due("all three", x.wind(4, -1, -1), UNKNOWN);
    }

    private static void shoalNumbers() {
        FishingKites x = Checks.told("shoal 0 0 1 1 1 0;shoal 3 9 6 1 1 99");
        DOC.says(7, "x and 100 (what 0)");
        due("least", x.shoal(0, 0), 100);
        due("greatest", x.shoal(3, 0), 109);
        DOC.says(7, "y and 100 (1)");
        due("least", x.shoal(0, 1), 101);
        due("greatest", x.shoal(3, 1), 106);
        DOC.says(7, "MANY left (2)");
        due("least", x.shoal(0, 2), 0);
        due("greatest", x.shoal(3, 2), 99);
        DOC.says(7, "UNKNOWN: no such SHOAL (0 .. 3)");
        for (int bad : new int[] {LOW, -2, -1, 4, 5, HIGH}) {
            due("shoal(" + bad + ", 0)", x.shoal(bad, 0), UNKNOWN);
        }
        DOC.says(7, "UNKNOWN: no such SHOAL (told)");
        due("shoal(1, 0)", x.shoal(1, 0), UNKNOWN);
        due("shoal(2, 2)", x.shoal(2, 2), UNKNOWN);
        DOC.says(7, "OUTSIDE: what 0 .. 2");
        for (int bad : new int[] {LOW, -1, 3, HIGH}) {
            due("shoal(0, " + bad + ")", x.shoal(0, bad), OUTSIDE);
        }
        DOC.says(7, "UNKNOWN; OUTSIDE: the first of these that fits");
        due("not told, and what", x.shoal(1, 3), UNKNOWN);
        due("no such, and what", x.shoal(4, -1), UNKNOWN);
    }

    private static void shoalPlaces() {
        DOC.says(7, "Of a SHOAL now: SHOALS move each HOUR, out of THE SEA, too");
        FishingKites x = Checks.told("shoal 0 0 1 0 0 5;shoal 1 9 6 2 2 6;shoal 2 4 3 1 1 7");
        for (int hour = 0; hour <= 12; hour++) {
            due("least x in " + hour, x.shoal(0, 0), 100 - hour);
            due("least y in " + hour, x.shoal(0, 1), 101 - hour);
            due("greatest x in " + hour, x.shoal(1, 0), 109 + hour);
            due("greatest y in " + hour, x.shoal(1, 1), 106 + hour);
            due("it stays, x", x.shoal(2, 0), 104);
            due("it stays, y", x.shoal(2, 1), 103);
            x.go(1);
        }
        DOC.says(7, "Of a SHOAL now: no HOUR is left, none moves");
        x.go(12);
        due("x", x.shoal(0, 0), 88);
        due("y", x.shoal(0, 1), 89);
        due("many", x.shoal(0, 2), 5);
        DOC.says(7, "MANY left: down to none");
        FishingKites y = asked(Checks.told("wind 1 0 11 9 3;kite 0 3 5 4 1 0;shoal 0 3 3 1 1 7"), 1);
        int[] left = {7, 4, 1, 0, 0};
        for (int hour = 0; hour < left.length; hour++) {
            due("in " + hour, y.shoal(0, 2), left[hour]);
            y.go(1);
        }
    }

    private static void ask() {
        FishingKites x = Checks.told("kite 0 1 1 1 1 1;kite 1 1 1 1 1 1;kite 5 1 1 1 1 1", "lost 1");
        DOC.says(8, "A KITE is ASKED for a HEIGHT (0 .. 3) from now on: that it was ASKED for");
        int before = 0;
        for (int height : new int[] {0, 3, 3, 1, 2, 0, 0}) {
            due("ask(0, " + height + ")", x.ask(0, height), before);
            due("kite(0, 1)", x.kite(0, 1), height);
            before = height;
        }
        due("another", x.ask(5, 3), 0);
        due("the first stays", x.kite(0, 1), 0);
        DOC.says(8, "UNKNOWN: no such KITE");
        for (int bad : NO_KITES) {
            due("ask(" + bad + ", 1)", x.ask(bad, 1), UNKNOWN);
        }
        due("one not told", x.ask(2, 1), UNKNOWN);
        due("one that is lost", x.ask(1, 1), UNKNOWN);
        DOC.says(8, "OUTSIDE: HEIGHT (0 .. 3)");
        for (int bad : new int[] {LOW, -1, 4, HIGH}) {
            due("ask(5, " + bad + ")", x.ask(5, bad), OUTSIDE);
        }
        DOC.says(8, "UNKNOWN; OUTSIDE: the first of these that fits");
        due("both", x.ask(2, 4), UNKNOWN);
        due("both", x.ask(6, -1), UNKNOWN);
        DOC.says(8, "Refused, and nothing changes");
        due("asked for", x.kite(5, 1), 3);
        DOC.says(8, "from now on: when no HOURS are left, too");
        x.go(12);
        due("ask", x.ask(5, 2), 3);
        due("asked for", x.kite(5, 1), 2);
    }

    private static void goBounds() {
        DOC.says(9, "n HOURS (1 .. 12) go: how many have gone in all");
        for (int n = 1; n <= 12; n++) {
            FishingKites x = new FishingKites();
            due("go(" + n + ")", x.go(n), n);
            due("count(6)", x.count(6), n);
        }
        DOC.says(9, "OUTSIDE");
        FishingKites y = new FishingKites();
        for (int bad : new int[] {LOW, -1, 0, 13, HIGH}) {
            due("go(" + bad + ")", y.go(bad), OUTSIDE);
        }
        due("none has gone", y.count(6), 0);
        DOC.says(9, "no more than are left");
        due("one", y.go(1), 1);
        due("twelve", y.go(12), 12);
        due("one more", y.go(1), 12);
        due("twelve more", y.go(12), 12);
        FishingKites z = new FishingKites();
        due("eleven", z.go(11), 11);
        due("the last", z.go(1), 12);
        due("two", z.go(2), 12);
        DOC.says(9, "OUTSIDE, also when none are left");
        due("go(0)", z.go(0), OUTSIDE);
        due("go(13)", z.go(13), OUTSIDE);
        DOC.says(9, "no more than are left: nothing is caught in others");
        FishingKites w = asked(Checks.told("wind 1 0 11 9 3;kite 0 3 5 4 1 0;shoal 0 3 3 1 1 99"), 1);
        w.go(12);
        due("hours up", w.kite(0, 3), 12);
        due("catch", w.kite(0, 2), 36);
        w.go(12);
        due("hours up", w.kite(0, 3), 12);
        due("catch", w.kite(0, 2), 36);
        due("takings", w.count(7), 12);
        due("still up in the last hour", w.kite(0, 0), 1);
    }

    private static void upAsked() {
        DOC.says(9, "UP, if it is ASKED for a HEIGHT h above 0");
        String kite = "kite 0 3 5 5 0 0";
        due("0", upBits(Checks.told(kite), 0), 0);
        for (int height = 1; height <= 3; height++) {
            due("" + height, upBits(Checks.told(kite), height), 1);
        }
        DOC.says(9, "(ASKED) from now on: not in hours that have gone");
        FishingKites x = Checks.told(kite);
        x.go(3);
        x.ask(0, 1);
        due("hours up", x.kite(0, 3), 0);
        x.go(2);
        due("hours up", x.kite(0, 3), 2);
        x.ask(0, 0);
        x.go(1);
        due("hours up", x.kite(0, 3), 2);
        due("up", x.kite(0, 0), 0);
    }

    private static void upLift() {
        DOC.says(9, "SIZE times STRENGTH there is NET or more");
        int[][] sizeStrengthNetUp = {{3, 3, 9, 1}, {2, 4, 9, 0}, {2, 4, 8, 1}, {1, 9, 9, 1}, {1, 8, 9, 0}, {5, 1, 5, 1}, {5, 1, 6, 0},
            {5, 0, 0, 1}, {5, 0, 1, 0}, {1, 1, 1, 1}, {1, 0, 0, 1}, {5, 9, 9, 1}};
        for (int[] row : sizeStrengthNetUp) {
            FishingKites x = Checks.told("wind 2 0 0 " + row[1] + " 3;kite 0 3 " + row[0] + " 4 " + row[2] + " 0");
            due("size " + row[0] + ", strength " + row[1] + ", net " + row[2], upBits(x, 2), row[3]);
        }
        DOC.says(9, "STRENGTH there: at its HEIGHT, in its HOUR");
        FishingKites y = asked(Checks.told("wind 1 0 0 9 3;wind 2 1 1 9 3;wind 3 2 2 9 3;kite 0 3 1 5 9 0"), 2);
        y.go(1);
        due("hour 0 at 2", y.kite(0, 0), 0);
        y.go(1);
        due("hour 1 at 2", y.kite(0, 0), 1);
        y.go(1);
        due("hour 2 at 2", y.kite(0, 0), 0);
    }

    private static void upSea() {
        DOC.says(9, "its CELL is one of THE SEA: x 0 .. 9");
        String right = "wind 1 0 0 9 4;kite 0 ";
        String left = "wind 1 0 0 9 2;kite 0 ";
        due("x 9", upBits(Checks.told(right + "8 1 3 1 0"), 1), 1);
        due("x 10", upBits(Checks.told(right + "9 1 3 1 0"), 1), 0);
        due("x 0", upBits(Checks.told(left + "1 1 3 1 0"), 1), 1);
        due("x -1", upBits(Checks.told(left + "0 1 3 1 0"), 1), 0);
        due("x 18", upBits(Checks.told("wind 3 0 0 9 6;kite 0 9 1 9 1 0"), 3), 0);
        due("x -9", upBits(Checks.told("wind 3 0 0 9 0;kite 0 0 1 9 1 0"), 3), 0);
        due("x 9 from 0", upBits(Checks.told("wind 3 0 0 9 6;kite 0 0 1 9 1 0"), 3), 1);
        due("x 0 from 9", upBits(Checks.told("wind 3 0 0 9 0;kite 0 9 1 9 1 0"), 3), 1);
        DOC.says(9, "its CELL is one of THE SEA: y 1 .. 6 (y is LONG less h)");
        for (int height = 1; height <= 3; height++) {
            for (int string = 1; string <= 9; string++) {
                int y = string - height;
                FishingKites x = Checks.told("kite 0 3 1 " + string + " 0 0");
                due("y " + y, upBits(x, height), y >= 1 && y <= 6 ? 1 : 0);
            }
        }
    }

    private static void upDrift() {
        DOC.says(9, "x is POST and (DRIFT times LONG by 3, cut towards 0)");
        // by string 1 to 9, for drifts 1, 2, 3
        int[][] far = {{0, 0, 1, 1, 1, 2, 2, 2, 3}, {0, 1, 2, 2, 3, 4, 4, 5, 6}, {1, 2, 3, 4, 5, 6, 7, 8, 9}};
        for (int string = 2; string <= 9; string++) {
            int height = string > 7 ? 3 : 1;
            for (int drift = 1; drift <= 3; drift++) {
                int by = far[drift - 1][string - 1];
                FishingKites x = Checks.told("wind " + height + " 0 0 1 " + (3 + drift) + ";wind " + height + " 1 1 1 " + (3 - drift),
                    "kite 0 0 1 " + string + " 1 0;kite 1 9 1 " + string + " 1 0");
                due("right by " + drift + " on " + string, x.where(0, height, 0), 10 * (string - height) + by);
                due("left by " + drift + " on " + string, x.where(1, height, 1), 10 * (string - height) + 9 - by);
                due("left of the sea", x.where(0, height, 1), by == 0 ? 10 * (string - height) : NONE);
                due("right of the sea", x.where(1, height, 0), by == 0 ? 10 * (string - height) + 9 : NONE);
            }
        }
    }

    private static void upFog() {
        String calmKites = "kite 0 3 5 4 0 0;kite 1 6 5 4 0 0";
        DOC.says(9, "it was UP in the HOUR ahead if t is in FOG (HOUR 0: no)");
        due("fog in hour 0", upBits(Checks.told(calmKites, "fog 0 0"), 1, 1), 0);
        due("fog in hour 1 alone", upBits(Checks.told(calmKites, "fog 1 1"), 1, 1), 3);
        FishingKites all = asked(Checks.told(calmKites, "fog 0 11"), 1, 1);
        all.go(12);
        due("fog all day", all.kite(0, 3), 0);
        FishingKites behind = asked(Checks.told(calmKites, "fog 1 11"), 1, 0);
        behind.go(1);
        behind.ask(1, 1);
        behind.go(11);
        due("up ahead of fog, and all day", behind.kite(0, 3), 12);
        due("asked for in fog", behind.kite(1, 3), 0);
        DOC.says(9, "FOG: the last HOUR");
        FishingKites last = asked(Checks.told(calmKites, "fog 11 11"), 1, 0);
        last.go(11);
        last.ask(1, 1);
        last.go(1);
        due("was up", last.kite(0, 0), 1);
        due("was not", last.kite(1, 0), 0);
        DOC.says(9, "it was UP in the HOUR ahead: at whatever HEIGHT");
        FishingKites other = asked(Checks.told(calmKites, "fog 1 1"), 1, 1);
        other.go(1);
        other.ask(0, 2);
        other.go(1);
        due("at another height in fog", other.kite(0, 0), 1);
    }

    private static void upFogBehind() {
        DOC.says(9, "it was UP in the HOUR ahead: one that GAVE WAY was not");
        FishingKites x = asked(Checks.told("fog 1 1;kite 0 3 5 4 0 0;kite 1 3 4 4 0 0"), 1, 1);
        x.go(1);
        due("gave way", x.kite(1, 4), 1);
        x.ask(0, 0);
        x.go(1);
        due("in fog", x.kite(1, 0), 0);
        x.go(1);
        due("behind fog", x.kite(1, 0), 1);
        DOC.says(9, "it was UP in the HOUR ahead: not in an earlier one alone");
        FishingKites y = asked(Checks.told("fog 2 2;kite 0 3 5 4 0 0"), 1);
        y.go(1);
        y.ask(0, 0);
        y.go(1);
        y.ask(0, 1);
        y.go(1);
        due("in fog", y.kite(0, 0), 0);
        DOC.says(9, "in FOG the rest is asked, too: lift");
        FishingKites z = asked(Checks.told("wind 1 0 0 9 3;fog 1 1;kite 0 3 5 4 1 0"), 1);
        z.go(1);
        due("ahead of fog", z.kite(0, 0), 1);
        z.go(1);
        due("in fog, no wind", z.kite(0, 0), 0);
    }

    private static void upStock() {
        DOC.says(9, "LONG of all that are UP so far and its own are STOCK at most");
        String two = "kite 0 2 1 4 0 0;kite 1 6 1 5 0 0";
        due("9 of 9", upBits(Checks.told(two, "stock 9"), 1, 1), 0b11);
        due("9 of 8", upBits(Checks.told(two, "stock 8"), 1, 1), 0b01);
        due("4 of 4", upBits(Checks.told(two, "stock 4"), 1, 1), 0b01);
        due("4 of 3", upBits(Checks.told(two, "stock 3"), 1, 1), 0b00);
        due("5 of 5, the other is not asked", upBits(Checks.told(two, "stock 5"), 0, 1), 0b10);
        due("2 of 0", upBits(Checks.told("stock 0;kite 0 2 1 2 0 0"), 1), 0);
        due("2 of 1", upBits(Checks.told("stock 1;kite 0 2 1 2 0 0"), 1), 0);
        due("2 of 2", upBits(Checks.told("stock 2;kite 0 2 1 2 0 0"), 1), 1);
        DOC.says(9, "of all that are UP so far: one that is not leaves its string to others");
        due("4, not 7, 3 of 7", upBits(Checks.told("stock 7;kite 0 0 1 4 0 0;kite 1 3 1 7 0 0;kite 2 6 1 3 0 0"), 1, 1, 1), 0b101);
        due("no lift", upBits(Checks.told("stock 7;kite 0 0 1 4 9 0;kite 1 3 1 7 0 0"), 1, 1), 0b10);
        DOC.says(9, "KITES by numbers: the first has the string");
        due("6 and 4 of 6", upBits(Checks.told("stock 6;kite 0 0 1 6 0 0;kite 1 3 1 4 0 0"), 1, 1), 0b01);
        due("4 and 6 of 6", upBits(Checks.told("stock 6;kite 0 0 1 4 0 0;kite 1 3 1 6 0 0"), 1, 1), 0b01);
        DOC.says(9, "STOCK 99: enough for all");
        String six = "kite 0 0 1 9 0 0;kite 1 1 1 9 0 0;kite 2 2 1 9 0 0;kite 3 3 1 9 0 0;kite 4 4 1 9 0 0;kite 5 5 1 9 0 0";
        due("54 of 99", upBits(Checks.told(six, "stock 99"), 3, 3, 3, 3, 3, 3), 63);
        due("54 of 54", upBits(Checks.told(six, "stock 54"), 3, 3, 3, 3, 3, 3), 63);
        due("54 of 53", upBits(Checks.told(six, "stock 53"), 3, 3, 3, 3, 3, 3), 31);
        DOC.says(9, "UP so far: TANGLES come behind");
        FishingKites x = Checks.told("stock 8;kite 0 3 5 4 0 0;kite 1 3 4 4 0 0;kite 2 8 3 4 0 0");
        due("its string was not free", upBits(x, 1, 1, 1), 0b001);
        due("gave way", x.kite(1, 4), 1);
    }

    private static void tangleWhere() {
        DOC.says(9, "the one with the lesser POST has not the lesser x");
        // drift 1: a string of 2 goes 0 far, one of 3 goes 1, one of 6 goes 2
        String wind = "wind 1 0 11 9 4;stock 99;kite 0 3 5 ";
        due("x 3 and 4", upBits(Checks.told(wind + "2 0 0;kite 1 4 5 2 0 0"), 1, 1), 0b11);
        due("x 4 and 4", upBits(Checks.told(wind + "3 0 0;kite 1 4 5 2 0 0"), 1, 1), 0b01);
        due("x 5 and 4", upBits(Checks.told(wind + "6 0 0;kite 1 4 5 2 0 0"), 1, 1), 0b01);
        due("x 4 and 5", upBits(Checks.told(wind + "3 0 0;kite 1 5 5 2 0 0"), 1, 1), 0b11);
        due("the greater number has the lesser post", upBits(Checks.told(wind + "2 0 0;kite 1 2 5 3 0 0"), 1, 1), 0b01);
        due("the greater number has the lesser post", upBits(Checks.told(wind + "2 0 0;kite 1 2 5 2 0 0"), 1, 1), 0b11);
        due("the greater number has the lesser post", upBits(Checks.told(wind + "2 0 0;kite 1 1 5 6 0 0"), 1, 1), 0b01);
        DOC.says(9, "(POSTS alike: always)");
        due("x 3 and 5", upBits(Checks.told(wind + "2 0 0;kite 1 3 5 6 0 0"), 1, 1), 0b01);
        due("x 5 and 3", upBits(Checks.told(wind + "6 0 0;kite 1 3 5 2 0 0"), 1, 1), 0b01);
        due("x 3 and 3", upBits(Checks.told(wind + "2 0 0;kite 1 3 5 2 0 0"), 1, 1), 0b01);
        DOC.says(9, "that are UP (still) at one HEIGHT");
        String alike = "stock 99;kite 0 3 5 5 0 0;kite 1 3 5 5 0 0";
        for (int one = 1; one <= 3; one++) {
            for (int other = 1; other <= 3; other++) {
                due(one + " and " + other, upBits(Checks.told(alike), one, other), one == other ? 0b01 : 0b11);
            }
        }
        due("the first is not asked", upBits(Checks.told(alike), 0, 1), 0b10);
        due("the first is out of the sea", upBits(Checks.told("stock 99;kite 0 3 5 1 0 0;kite 1 3 5 5 0 0"), 1, 1), 0b10);
        due("the first has no lift", upBits(Checks.told("stock 99;kite 0 3 5 5 9 0;kite 1 3 5 5 0 0"), 1, 1), 0b10);
    }

    private static void tangleEach() {
        DOC.says(9, "of each two at one HEIGHT: in each HOUR");
        for (int one = 0; one < 6; one++) {
            for (int other = one + 1; other < 6; other++) {
                for (int height = 1; height <= 3; height++) {
                    FishingKites x = Checks.told("kite " + one + " 3 5 5 0 0;kite " + other + " 3 5 5 0 0");
                    x.ask(one, height);
                    x.ask(other, height);
                    String name = one + " and " + other + " at " + height;
                    x.go(1);
                    due(name, x.kite(other, 4), 1);
                    x.go(10);
                    due(name, x.kite(other, 4), 11);
                    x.go(1);
                    due(name, x.kite(other, 4), 12);
                    due(name, x.kite(other, 3), 0);
                    due(name, x.kite(one, 3), 12);
                }
            }
        }
    }

    private static void tangleOrder() {
        String wind = "wind 1 0 11 9 4;stock 99";
        DOC.says(9, "of each two, by the first, then the second: 0 and 1 ahead of 1 and 2");
        // x 2, 4, 3: 1 crosses both, 0 and 2 do not cross
        FishingKites x = Checks.told(wind, "kite 0 2 5 2 0 0;kite 1 2 4 6 0 0;kite 2 3 3 2 0 0");
        due("2 has nobody to give way to", upBits(x, 1, 1, 1), 0b101);
        due("gave way", x.kite(1, 4), 1);
        due("gave way", x.kite(2, 4), 0);
        DOC.says(9, "of each two, by the first, then the second: 0 and 2 ahead of 1 and 2");
        // x 2, 3, 4: 2 crosses both, 0 and 1 do not cross
        FishingKites y = Checks.told(wind, "kite 0 2 1 2 0 0;kite 1 3 5 2 0 0;kite 2 2 3 6 0 0");
        due("0 gives way to 2, then 2 to 1", upBits(y, 1, 1, 1), 0b010);
        due("gave way", y.kite(0, 4), 1);
        due("gave way", y.kite(2, 4), 1);
        DOC.says(9, "UP (still): one that gave way makes nobody give way");
        // x 4, 4, 3: 0 crosses 1 and 2, which do not cross; 0 gives way to 1, so 2 stays
        FishingKites z = Checks.told(wind, "kite 0 2 3 6 0 0;kite 1 4 5 2 0 0;kite 2 3 2 2 0 0");
        due("2 stays", upBits(z, 1, 1, 1), 0b110);
        due("2 did not give way", z.kite(2, 4), 0);
        DOC.says(9, "one GIVES WAY, and is not UP");
        FishingKites w = asked(Checks.told("wind 1 0 11 9 3;kite 0 3 5 4 1 0;kite 1 3 5 4 9 0;shoal 0 3 3 1 1 99"), 1, 1);
        w.go(12);
        due("hours up", w.kite(1, 3), 0);
        due("hours it gave way", w.kite(1, 4), 12);
        due("catch", w.kite(1, 2), 0);
        due("the other", w.kite(0, 3), 12);
        due("all of six at one post", upBits(Checks.told("stock 99;law 2",
            "kite 0 3 1 4 0 0;kite 1 3 1 4 0 0;kite 2 3 1 4 0 0;kite 3 3 1 4 0 0;kite 4 3 1 4 0 0;kite 5 3 1 4 0 0"), 1, 1, 1, 1, 1, 1), 1);
    }

    private static void tangleLaws() {
        // law, sizes of 0 and 1, clans of 0 and 1, who stays by bits
        int[][] rows = {
            {0, 1, 2, 0, 0, 2}, {0, 2, 1, 0, 0, 1}, {0, 5, 4, 2, 0, 1}, {0, 4, 5, 0, 2, 2},
            {1, 1, 1, 1, 0, 2}, {1, 1, 1, 0, 1, 1}, {1, 5, 1, 2, 1, 2}, {1, 1, 5, 1, 2, 1},
            {2, 1, 5, 2, 0, 1}, {2, 5, 1, 0, 2, 1},
            {0, 3, 3, 2, 0, 1}, {0, 3, 3, 0, 2, 1}, {1, 1, 5, 1, 1, 1}, {1, 5, 1, 2, 2, 1}, {2, 3, 3, 1, 1, 1}};
        String[] sentences = {"by LAW 0 that of the lesser SIZE", "by 1 that of the greater CLAN", "by 2 that of the greater number",
            "(and if those are alike) that of the greater number"};
        for (int i = 0; i < rows.length; i++) {
            int[] r = rows[i];
            DOC.says(9, sentences[i < 4 ? 0 : i < 8 ? 1 : i < 10 ? 2 : 3]);
            FishingKites x = Checks.told("stock 99;law " + r[0],
                "kite 0 3 " + r[1] + " 4 0 " + r[3] + ";kite 1 3 " + r[2] + " 4 0 " + r[4]);
            due("law " + r[0] + ", sizes " + r[1] + " " + r[2] + ", clans " + r[3] + " " + r[4], upBits(x, 1, 1), r[5]);
            due("who gave way", x.kite(r[5] == 1 ? 1 : 0, 4), 1);
            due("who did not", x.kite(r[5] == 1 ? 0 : 1, 4), 0);
        }
    }

    private static void takeNets() {
        DOC.says(9, "3 times NET fish at most in all");
        // net, fish of two shoals at its cell, what is taken of each
        int[][] rows = {{0, 9, 9, 0, 0}, {1, 2, 9, 2, 1}, {1, 3, 9, 3, 0}, {1, 4, 9, 3, 0}, {1, 2, 1, 2, 1}, {1, 1, 1, 1, 1},
            {9, 26, 9, 26, 1}, {9, 27, 9, 27, 0}, {9, 28, 9, 27, 0}, {9, 99, 99, 27, 0}, {9, 0, 99, 0, 27}, {2, 0, 0, 0, 0}};
        for (int[] r : rows) {
            FishingKites x = asked(Checks.told("wind 1 0 0 9 3;kite 0 3 5 4 " + r[0] + " 0;shoal 1 3 3 1 1 " + r[1] + ";shoal 2 3 3 1 1 " + r[2]), 1);
            x.go(1);
            String name = "net " + r[0] + " of " + r[1] + " and " + r[2];
            due(name, x.shoal(1, 2), r[1] - r[3]);
            due(name, x.shoal(2, 2), r[2] - r[4]);
            due(name + ", catch", x.kite(0, 2), r[3] + r[4]);
            due(name + ", up", x.kite(0, 0), 1);
            due(name + ", takings", x.count(7), (r[3] > 0 ? 1 : 0) + (r[4] > 0 ? 1 : 0));
        }
        DOC.says(9, "take from SHOALS at their CELL: not beside it");
        String beside = "shoal 0 2 3 1 1 9;shoal 1 4 3 1 1 9;shoal 2 3 2 1 1 9;shoal 3 3 4 1 1 9";
        FishingKites y = asked(Checks.told("wind 1 0 0 9 3;kite 0 3 5 4 9 0", beside), 1);
        y.go(1);
        due("takings", y.count(7), 0);
        DOC.says(9, "in the HOUR: each HOUR anew");
        FishingKites z = asked(Checks.told("wind 1 0 11 9 3;kite 0 3 5 4 2 0;shoal 0 3 3 1 1 99"), 1);
        for (int hour = 1; hour <= 12; hour++) {
            z.go(1);
            due("hour " + hour, z.kite(0, 2), 6 * hour);
        }
    }

    private static void takeOrder() {
        DOC.says(9, "Those that are UP, by numbers, take from SHOALS, by numbers");
        FishingKites x = asked(Checks.told("wind 1 0 0 9 3;wind 2 0 0 9 3;stock 99", "kite 0 3 5 5 1 0;kite 1 3 5 4 2 0;shoal 0 3 3 1 1 2;shoal 3 3 3 1 1 5"), 2, 1);
        x.go(1);
        int[][] takings = {{0, 0, 0, 2}, {0, 3, 0, 1}, {1, 3, 0, 4}};
        due("takings", x.count(7), 3);
        for (int i = 0; i < 3; i++) {
            for (int what = 0; what < 4; what++) {
                due("taking(" + i + ", " + what + ")", x.taking(i, what), takings[i][what]);
            }
        }
        DOC.says(9, "Those that are UP: nothing is left for the last");
        FishingKites y = asked(Checks.told("wind 1 0 0 9 3;wind 2 0 0 9 3;stock 99", "kite 0 3 5 5 1 0;kite 1 3 5 4 2 0;shoal 0 3 3 1 1 3"), 2, 1);
        y.go(1);
        due("the first", y.kite(0, 2), 3);
        due("the last", y.kite(1, 2), 0);
        due("takings", y.count(7), 1);
    }

    private static void takeGulls() {
        DOC.says(9, "THE GULLS have that number divided by GULLS, cut");
        for (int gulls = 1; gulls <= 9; gulls++) {
            for (int fish : new int[] {1, 2, 8, 9, 10, 26, 27}) {
                FishingKites x = asked(Checks.told("wind 1 0 0 9 3;gulls " + gulls + ";kite 0 3 5 4 9 0;shoal 0 3 3 1 1 " + fish), 1);
                x.go(1);
                due("of " + fish + " by " + gulls, x.count(9), fish / gulls);
                due("the rest is its CATCH", x.kite(0, 2), fish - fish / gulls);
                due("how many (with those of GULLS)", x.taking(0, 3), fish);
                due("catch of all", x.count(8), fish - fish / gulls);
            }
        }
        DOC.says(9, "(none, if GULLS is 0)");
        FishingKites y = asked(Checks.told("wind 1 0 0 9 3;gulls 0;kite 0 3 5 4 9 0;shoal 0 3 3 1 1 27"), 1);
        y.go(1);
        due("gulls", y.count(9), 0);
        due("catch", y.kite(0, 2), 27);
        DOC.says(9, "of what one took in the HOUR: of all SHOALS together");
        FishingKites z = asked(Checks.told("wind 1 0 0 9 3;gulls 2;kite 0 3 5 4 9 0;shoal 0 3 3 1 1 1;shoal 1 3 3 1 1 1"), 1);
        z.go(1);
        due("two by two", z.count(9), 1);
        DOC.says(9, "of what one took in the HOUR: each KITE by itself");
        FishingKites w = asked(Checks.told("wind 1 0 0 9 3;gulls 4;kite 0 3 5 4 1 0;kite 1 5 5 4 1 0;shoal 0 3 3 1 1 3;shoal 1 5 3 1 1 3"), 1, 1);
        w.go(1);
        due("three and three by four", w.count(9), 0);
        DOC.says(9, "of what one took in the HOUR: each HOUR by itself");
        FishingKites v = asked(Checks.told("wind 1 0 1 9 3;gulls 4;kite 0 3 5 4 1 0;shoal 0 3 3 1 1 9"), 1);
        v.go(2);
        due("three and three by four", v.count(9), 0);
        due("catch", v.kite(0, 2), 6);
    }

    private static void shoalsMove() {
        DOC.says(9, "SHOALS move: behind the HOUR in which they are caught");
        FishingKites x = asked(Checks.told("wind 1 0 11 9 3;kite 0 3 5 4 1 0;shoal 0 3 3 2 1 99;shoal 1 2 3 2 1 99;shoal 2 3 2 1 2 99"), 1);
        x.go(3);
        int[][] due = {{0, 0}, {1, 1}};
        for (int i = 0; i < due.length; i++) {
            due("shoal", x.taking(i, 1), due[i][0]);
            due("hour", x.taking(i, 2), due[i][1]);
        }
        due("net is full, one shoal each hour", x.count(7), 2);
        due("the third had come by when the net was full", x.shoal(2, 2), 99);
        DOC.says(9, "(out of THE SEA: they are nowhere caught)");
        // the shoals come to y 7 and y 0, where strings of 8 and 1 would be at height 1
        FishingKites y = asked(Checks.told("wind 1 0 11 9 3;stock 99", "kite 0 3 5 8 9 0;kite 1 5 5 1 9 0;shoal 0 3 6 1 2 99;shoal 1 5 1 1 0 99"), 1, 1);
        y.go(2);
        due("nobody is there", y.count(7), 0);
        due("it is out", y.shoal(0, 1), 108);
        due("it is out", y.shoal(1, 1), 99);
        FishingKites z = asked(Checks.told("wind 1 0 11 9 4;kite 0 9 5 3 9 0;shoal 0 9 2 2 1 99"), 1);
        z.go(12);
        due("x 10", z.count(7), 0);
        DOC.says(9, "SHOALS move: the least and the greatest cells are caught in");
        for (int[] cell : new int[][] {{0, 1}, {9, 1}, {0, 6}, {9, 6}}) {
            FishingKites w = asked(Checks.told("wind 1 0 0 9 3;kite 0 " + cell[0] + " 5 " + (cell[1] + 1) + " 9 0;shoal 0 " + cell[0] + " " + cell[1] + " 1 1 5"), 1);
            w.go(1);
            due("at " + cell[0] + ", " + cell[1], w.kite(0, 2), 5);
        }
    }

    private static void kite() {
        FishingKites x = asked(Checks.told("wind 1 0 5 9 3;gulls 5;kite 0 3 5 4 2 0;kite 1 3 4 4 2 0;shoal 0 3 3 1 1 99", "lost 2"), 1, 1);
        DOC.says(10, "1 UP in the last HOUR, 0: none has gone");
        due("kite(0, 0)", x.kite(0, 0), 0);
        x.go(6);
        DOC.says(10, "1 UP in the last HOUR, 0 (what 0)");
        due("up", x.kite(0, 0), 1);
        due("gave way", x.kite(1, 0), 0);
        x.ask(0, 3);
        due("asked for another height since", x.kite(0, 0), 1);
        DOC.says(10, "the HEIGHT it is ASKED for (1)");
        due("kite 0", x.kite(0, 1), 3);
        due("kite 1", x.kite(1, 1), 1);
        DOC.says(10, "CATCH (2)");
        due("six hours of 6 less 1", x.kite(0, 2), 30);
        due("none", x.kite(1, 2), 0);
        DOC.says(10, "in how many HOURS it was UP (3)");
        due("kite 0", x.kite(0, 3), 6);
        due("kite 1", x.kite(1, 3), 0);
        DOC.says(10, "in how many it GAVE WAY (4)");
        due("kite 0", x.kite(0, 4), 0);
        due("kite 1", x.kite(1, 4), 6);
        DOC.says(10, "in the last HOUR: no longer");
        x.go(1);
        due("no wind", x.kite(0, 0), 0);
        due("hours up", x.kite(0, 3), 6);
        DOC.says(10, "UNKNOWN");
        for (int bad : NO_KITES) {
            due("kite(" + bad + ", 0)", x.kite(bad, 0), UNKNOWN);
        }
        due("not told", x.kite(5, 0), UNKNOWN);
        due("lost", x.kite(2, 0), UNKNOWN);
        DOC.says(10, "OUTSIDE: what 0 .. 4");
        for (int bad : new int[] {LOW, -1, 5, HIGH}) {
            due("kite(0, " + bad + ")", x.kite(0, bad), OUTSIDE);
        }
        DOC.says(10, "UNKNOWN; OUTSIDE: the first of these that fits");
        due("both", x.kite(2, 5), UNKNOWN);
        due("both", x.kite(6, -1), UNKNOWN);
    }

    private static void where() {
        FishingKites x = Checks.told("wind 1 0 0 0 4;wind 1 1 1 0 2;wind 1 11 11 9 6",
            "kite 0 8 1 3 9 0;kite 1 9 1 3 9 0;kite 2 1 1 3 9 0;kite 3 0 1 3 9 0;kite 4 0 1 7 0 0;kite 5 9 1 8 0 0");
        DOC.says(11, "x and 10 times y");
        due("least x and y", Checks.told("kite 0 0 1 2 0 0").where(0, 1, 0), 10);
        due("greatest x and y", Checks.told("kite 0 9 1 9 0 0").where(0, 3, 0), 69);
        due("in the last hour", x.where(4, 1, 11), 67);
        DOC.says(11, "NONE: out of THE SEA (x)");
        due("x 9", x.where(0, 1, 0), 29);
        due("x 10", x.where(1, 1, 0), NONE);
        due("x 0", x.where(2, 1, 1), 20);
        due("x -1", x.where(3, 1, 1), NONE);
        DOC.says(11, "NONE: out of THE SEA (y)");
        due("y 6", x.where(4, 1, 5), 60);
        due("y 7", x.where(5, 1, 5), NONE);
        due("y 1", x.where(0, 2, 5), 18);
        due("y 0", x.where(0, 3, 5), NONE);
        due("y -2", Checks.told("kite 0 0 1 1 0 0").where(0, 3, 0), NONE);
        DOC.says(11, "whether there is lift or not");
        due("no strength, a net of 9", x.where(0, 1, 5), 28);
        DOC.says(11, "at a HEIGHT in an HOUR: whatever is ASKED, and whatever has gone");
        x.ask(0, 2);
        x.go(12);
        due("where", x.where(0, 1, 5), 28);
        DOC.says(11, "UNKNOWN: no such KITE (told), HEIGHT, HOUR");
        for (int bad : NO_KITES) {
            due("where(" + bad + ", 1, 0)", x.where(bad, 1, 0), UNKNOWN);
        }
        for (int bad : NO_HEIGHTS) {
            due("where(0, " + bad + ", 0)", x.where(0, bad, 0), UNKNOWN);
        }
        for (int bad : NO_HOURS) {
            due("where(0, 1, " + bad + ")", x.where(0, 1, bad), UNKNOWN);
            due("where(0, 3, " + bad + ")", x.where(0, 3, bad), UNKNOWN);
        }
        due("not told", Checks.told("kite 0 0 1 2 0 0").where(1, 1, 0), UNKNOWN);
    }

    private static void hinders() {
        FishingKites x = Checks.told("wind 1 0 0 3 3;wind 1 1 1 2 3;wind 1 2 2 9 6;wind 1 3 3 0 6", "kite 0 9 3 4 9 0;kite 1 9 1 9 0 0");
        DOC.says(12, "0 nothing");
        due("9 of 9", x.hinders(0, 1, 0), 0);
        due("0 of 0", x.hinders(1, 3, 0), 0);
        DOC.says(12, "1 no lift");
        due("6 of 9", x.hinders(0, 1, 1), 1);
        due("no wind at all", x.hinders(0, 2, 0), 1);
        due("in the last hour", x.hinders(0, 3, 11), 1);
        DOC.says(12, "2 out of THE SEA");
        due("x 13, lift", x.hinders(0, 1, 2), 2);
        due("y 8, lift", x.hinders(1, 1, 0), 2);
        DOC.says(12, "2 out of THE SEA (ahead of 1)");
        due("both", x.hinders(0, 1, 3), 2);
        due("both", Checks.told("kite 0 0 1 1 1 0").hinders(0, 1, 0), 2);
        DOC.says(12, "were nobody else there (FOG, STOCK not asked)");
        FishingKites y = asked(Checks.told("fog 0 11;stock 0", "kite 0 3 1 4 0 0;kite 1 3 5 4 0 0"), 1, 1);
        due("kite 0", y.hinders(0, 1, 0), 0);
        due("kite 1", y.hinders(1, 1, 11), 0);
        y.go(1);
        due("and yet it was not up", y.kite(1, 0), 0);
        DOC.says(12, "UNKNOWN: no such KITE (told), HEIGHT, HOUR");
        for (int bad : NO_KITES) {
            due("hinders(" + bad + ", 1, 0)", x.hinders(bad, 1, 0), UNKNOWN);
        }
        due("not told", x.hinders(2, 1, 0), UNKNOWN);
        for (int bad : NO_HEIGHTS) {
            due("hinders(0, " + bad + ", 0)", x.hinders(0, bad, 0), UNKNOWN);
        }
        for (int bad : NO_HOURS) {
            due("hinders(0, 1, " + bad + ")", x.hinders(0, 1, bad), UNKNOWN);
        }
    }

    private static void tangleCall() {
        // drift 1: a string of 2 goes 0 far, one of 3 goes 1, one of 6 goes 2
        String kites = "kite 0 3 2 3 0 1;kite 1 4 2 2 0 1;kite 2 3 3 6 0 2;kite 3 5 1 2 0 0";
        FishingKites x = Checks.told("wind 1 0 11 9 4;wind 3 11 11 9 4", kites);
        DOC.says(13, "Whether two would TANGLE at a HEIGHT in an HOUR: the one that GIVES WAY; NONE");
        due("x 4 and 4", x.tangle(0, 1, 1, 0), 1);
        due("x 4 and 5", x.tangle(0, 3, 1, 0), NONE);
        due("x 5 and 4", x.tangle(2, 1, 1, 0), 1);
        due("x 5 and 5", x.tangle(2, 3, 1, 0), 3);
        due("x 3 and 4, no drift", x.tangle(0, 1, 2, 0), NONE);
        due("in hour 10", x.tangle(0, 1, 3, 10), NONE);
        due("in hour 11", x.tangle(0, 1, 3, 11), 1);
        DOC.says(13, "(POSTS alike: always)");
        due("x 4 and 5", x.tangle(0, 2, 1, 0), 0);
        due("x 3 and 3", x.tangle(0, 2, 2, 0), 0);
        DOC.says(13, "two: whichever is told first");
        for (int one = 0; one < 4; one++) {
            for (int other = 0; other < one; other++) {
                due("tangle(" + one + ", " + other + ", 1, 0)", x.tangle(one, other, 1, 0), x.tangle(other, one, 1, 0));
            }
        }
        DOC.says(13, "by LAW: sizes, clans, numbers");
        due("law 0", Checks.told(kites, "law 0").tangle(0, 2, 1, 0), 0);
        due("law 1", Checks.told(kites, "law 1").tangle(0, 2, 1, 0), 2);
        due("law 2", Checks.told(kites, "law 2").tangle(0, 2, 1, 0), 2);
        DOC.says(13, "if both were UP there: out of THE SEA, without lift, in fog, too");
        FishingKites y = Checks.told("fog 0 11;stock 0", "kite 0 9 2 1 9 0;kite 1 9 1 1 9 0");
        due("tangle", y.tangle(0, 1, 1, 0), 1);
        FishingKites z = Checks.told("wind 1 0 0 0 6", "kite 0 8 2 9 9 0;kite 1 9 1 1 9 0");
        due("x 17 and 10", z.tangle(0, 1, 1, 0), 1);
        FishingKites w = Checks.told("wind 1 0 0 0 0", "kite 0 0 2 1 9 0;kite 1 1 1 9 9 0");
        due("x -1 and -8", w.tangle(0, 1, 1, 0), 1);
    }

    private static void tangleRefused() {
        FishingKites x = Checks.told("kite 0 3 2 3 0 1;kite 5 3 2 2 0 1");
        DOC.says(13, "UNKNOWN: no such KITE");
        for (int bad : NO_KITES) {
            due("tangle(" + bad + ", 0, 1, 0)", x.tangle(bad, 0, 1, 0), UNKNOWN);
            due("tangle(0, " + bad + ", 1, 0)", x.tangle(0, bad, 1, 0), UNKNOWN);
        }
        due("not told", x.tangle(0, 1, 1, 0), UNKNOWN);
        due("not told", x.tangle(1, 0, 1, 0), UNKNOWN);
        DOC.says(13, "UNKNOWN: no such HEIGHT, HOUR");
        for (int bad : NO_HEIGHTS) {
            due("tangle(0, 5, " + bad + ", 0)", x.tangle(0, 5, bad, 0), UNKNOWN);
        }
        for (int bad : NO_HOURS) {
            due("tangle(0, 5, 1, " + bad + ")", x.tangle(0, 5, 1, bad), UNKNOWN);
        }
        DOC.says(13, "OUTSIDE: one and itself");
        due("kite 0", x.tangle(0, 0, 1, 0), OUTSIDE);
        due("kite 5", x.tangle(5, 5, 3, 11), OUTSIDE);
        DOC.says(13, "UNKNOWN; OUTSIDE: the first of these that fits");
        due("not told, and itself", x.tangle(1, 1, 1, 0), UNKNOWN);
        due("no such, and itself", x.tangle(6, 6, 1, 0), UNKNOWN);
        due("no such height, and itself", x.tangle(0, 0, 0, 0), UNKNOWN);
        due("no such height, and itself", x.tangle(0, 0, 4, 0), UNKNOWN);
        due("no such hour, and itself", x.tangle(0, 0, 1, 12), UNKNOWN);
        due("no such hour, and itself", x.tangle(0, 0, 1, -1), UNKNOWN);
    }

    private static void taking() {
        FishingKites x = Checks.told("wind 1 0 0 9 3;wind 1 11 11 9 3", "kite 5 3 5 4 9 0;shoal 3 3 3 1 1 28");
        DOC.says(14, "NONE: there were not so many (none at all)");
        due("taking(0, 0)", x.taking(0, 0), NONE);
        x.ask(5, 1);
        x.go(12);
        DOC.says(14, "Of the i-th TAKING of today (from 0): KITE (what 0), SHOAL (1), HOUR (2), how many (3)");
        int[][] takings = {{5, 3, 0, 27}, {5, 3, 11, 1}};
        for (int i = 0; i < 2; i++) {
            for (int what = 0; what < 4; what++) {
                due("taking(" + i + ", " + what + ")", x.taking(i, what), takings[i][what]);
            }
        }
        DOC.says(14, "NONE: there were not so many");
        due("taking(2, 0)", x.taking(2, 0), NONE);
        due("taking(3, 3)", x.taking(3, 3), NONE);
        due("taking(288, 3)", x.taking(288, 3), NONE);
        due("taking(HIGH, 3)", x.taking(HIGH, 3), NONE);
        DOC.says(14, "OUTSIDE: i below 0");
        due("taking(-1, 0)", x.taking(-1, 0), OUTSIDE);
        due("taking(LOW, 3)", x.taking(LOW, 3), OUTSIDE);
        DOC.says(14, "OUTSIDE: what");
        for (int bad : new int[] {LOW, -1, 4, HIGH}) {
            due("taking(0, " + bad + ")", x.taking(0, bad), OUTSIDE);
            due("taking(2, " + bad + "): ahead of NONE", x.taking(2, bad), OUTSIDE);
            due("taking(-1, " + bad + "): both", x.taking(-1, bad), OUTSIDE);
        }
        DOC.says(14, "of today: a text begins another DAY");
        Checks.writeText(x, "calm");
        x.cliff();
        due("taking(0, 0)", x.taking(0, 0), NONE);
    }

    private static void takingMany() {
        DOC.says(14, "TAKINGS of a DAY are told in their order: as many as can be");
        // three kites at each of two cells, one fish less than 33 nets: 73 takings, the last of the first cell by two shoals
        FishingKites x = asked(Checks.told("wind 1 0 11 9 3;wind 2 0 11 9 3;wind 3 0 11 9 3;stock 99;kite 0 3 5 4 1 0;kite 1 3 5 5 1 0;kite 2 3 5 6 1 0",
            "kite 3 7 5 4 1 0;kite 4 7 5 5 1 0;kite 5 7 5 6 1 0;shoal 0 3 3 1 1 98;shoal 1 3 3 1 1 99;shoal 2 7 3 1 1 99;shoal 3 7 3 1 1 99"), 1, 2, 3, 1, 2, 3);
        x.go(12);
        due("count(7)", x.count(7), 73);
        due("the first: kite", x.taking(0, 0), 0);
        due("the first: hour", x.taking(0, 2), 0);
        due("the sixth: kite", x.taking(5, 0), 5);
        due("the sixth: shoal", x.taking(5, 1), 2);
        due("what is left of a shoal", x.taking(62, 3), 2);
        due("the rest of another", x.taking(63, 3), 1);
        due("by one kite", x.taking(62, 0), x.taking(63, 0));
        due("the last: kite", x.taking(72, 0), 5);
        due("the last: shoal", x.taking(72, 1), 3);
        due("the last: hour", x.taking(72, 2), 11);
        due("the last: how many", x.taking(72, 3), 3);
        due("behind the last", x.taking(73, 0), NONE);
        due("catch of all", x.count(8), 216);
        DOC.says(16, "It is as it was kept: as many TAKINGS as can be");
        x.keep(1);
        Checks.writeText(x, "calm");
        x.back(1);
        due("count(7)", x.count(7), 73);
        due("the last", x.taking(72, 0), 5);
    }

    private static void keep() {
        DOC.says(15, "kept (k 0, 1): HOURS that have gone");
        FishingKites x = new FishingKites();
        due("none have gone", x.keep(0), 0);
        x.go(5);
        due("five", x.keep(1), 5);
        x.go(12);
        due("all", x.keep(0), 12);
        due("all", x.keep(1), 12);
        DOC.says(15, "UNKNOWN: no such k");
        for (int bad : new int[] {LOW, -1, 2, 3, HIGH}) {
            due("keep(" + bad + ")", x.keep(bad), UNKNOWN);
        }
        DOC.says(15, "is kept (k 0, 1): each by itself");
        FishingKites y = new FishingKites();
        y.keep(0);
        due("the other is not", y.back(1), NOT);
        y.go(3);
        y.keep(1);
        due("the first", y.back(0), 0);
        due("the other", y.back(1), 3);
        DOC.says(15, "is kept: over what was kept");
        y.go(1);
        due("keep", y.keep(0), 4);
        y.go(1);
        due("back", y.back(0), 4);
        due("the other", y.back(1), 3);
        DOC.says(15, "The DAY as it is: keeping changes nothing in it");
        FishingKites z = asked(Checks.told("wind 1 0 11 9 3;kite 0 3 5 4 1 0;shoal 0 3 3 1 1 99"), 1);
        z.go(2);
        z.keep(0);
        due("hours", z.count(6), 2);
        due("catch", z.count(8), 6);
        z.go(1);
        due("hours", z.count(6), 3);
        due("catch", z.count(8), 9);
    }

    private static void keepAll() {
        FishingKites x = asked(Checks.told("wind 1 0 11 9 3;wind 2 0 11 9 3;gulls 2;fog 3 3;kite 0 3 5 4 1 0;kite 1 3 4 4 1 0;shoal 0 3 3 1 1 99;shoal 1 5 5 2 0 7"), 1, 1);
        x.go(3);
        x.keep(0);
        x.ask(0, 0);
        x.ask(1, 2);
        x.go(9);
        x.keep(1);
        DOC.says(16, "It is as it was kept: likewise (HOURS that have gone)");
        due("back(0)", x.back(0), 3);
        due("count(6)", x.count(6), 3);
        DOC.says(16, "as it was kept: what is ASKED");
        due("kite 0", x.kite(0, 1), 1);
        due("kite 1", x.kite(1, 1), 1);
        DOC.says(16, "as it was kept: SHOALS");
        due("many", x.shoal(0, 2), 90);
        due("x", x.shoal(1, 0), 108);
        due("y", x.shoal(1, 1), 102);
        DOC.says(16, "as it was kept: CATCH");
        due("of a kite", x.kite(0, 2), 6);
        due("of all", x.count(8), 6);
        due("of gulls", x.count(9), 3);
        DOC.says(16, "as it was kept: TAKINGS");
        due("how many", x.count(7), 3);
        due("the last", x.taking(2, 2), 2);
        due("behind the last", x.taking(3, 2), NONE);
        DOC.says(16, "as it was kept: who was UP, who GAVE WAY");
        due("up", x.kite(0, 0), 1);
        due("hours up", x.kite(0, 3), 3);
        due("gave way", x.kite(1, 4), 3);
        DOC.says(16, "as it was kept: who was UP may be UP in FOG");
        x.go(1);
        due("kite 0", x.kite(0, 0), 1);
        due("kite 1", x.kite(1, 0), 0);
        DOC.says(16, "as it was kept: again, and the other");
        due("back(1)", x.back(1), 12);
        due("best", x.best(NONE), NOT);
        due("back(0)", x.back(0), 3);
        due("catch", x.count(8), 6);
    }

    private static void keepEach() {
        DOC.says(16, "as it was kept: of each KITE");
        for (int k = 0; k < 6; k++) {
            int other = (k + 1) % 6;
            FishingKites x = Checks.told("wind 1 0 11 9 3;kite " + k + " 3 4 4 1 0;kite " + other + " 3 5 4 1 0;shoal 3 3 3 1 1 99");
            x.ask(k, 1);
            x.go(2);
            x.ask(other, 1);
            x.go(1);
            x.keep(1);
            x.go(1);
            x.ask(other, 0);
            x.go(1);
            x.ask(k, 2);
            int[] now = {1, 2, 9, 3, 2};
            int[] then = {0, 1, 6, 2, 1};
            for (int what = 0; what < 5; what++) {
                due("kite(" + k + ", " + what + ") ahead of back", x.kite(k, what), now[what]);
            }
            x.back(1);
            for (int what = 0; what < 5; what++) {
                due("kite(" + k + ", " + what + ") behind back", x.kite(k, what), then[what]);
            }
            due("the other is asked for", x.kite(other, 1), 1);
            due("the other was up", x.kite(other, 0), 1);
        }
        DOC.says(16, "as it was kept: of each SHOAL");
        for (int s = 0; s < 4; s++) {
            FishingKites x = asked(Checks.told("wind 1 0 11 9 3;kite 0 3 4 4 1 0;shoal " + s + " 3 3 1 1 99"), 1);
            x.go(1);
            x.keep(0);
            x.go(2);
            due("ahead of back", x.shoal(s, 2), 90);
            x.back(0);
            due("behind back", x.shoal(s, 2), 96);
        }
    }

    private static void back() {
        DOC.says(16, "NOT: nothing was kept since the last text");
        FishingKites x = new FishingKites();
        due("back(0)", x.back(0), NOT);
        due("back(1)", x.back(1), NOT);
        x.keep(0);
        x.keep(1);
        due("kept without a text", x.back(0), 0);
        Checks.writeText(x, "calm");
        due("cliff", x.cliff(), 1);
        due("back(0)", x.back(0), NOT);
        due("back(1)", x.back(1), NOT);
        x.go(2);
        x.keep(1);
        due("back(0)", x.back(0), NOT);
        due("back(1)", x.back(1), 2);
        DOC.says(16, "since the last text: one with a FAULT is none");
        Checks.writeText(x, "calms");
        due("cliff", x.cliff(), NOT);
        due("back(1)", x.back(1), 2);
        DOC.says(16, "UNKNOWN");
        for (int bad : new int[] {LOW, -1, 2, 3, HIGH}) {
            due("back(" + bad + ")", x.back(bad), UNKNOWN);
        }
        DOC.says(16, "UNKNOWN; NOT: the first of these that fits");
        due("both", new FishingKites().back(2), UNKNOWN);
        due("both", new FishingKites().back(-1), UNKNOWN);
        DOC.says(16, "NOT: nothing changes");
        FishingKites y = Checks.told("kite 0 3 5 4 0 0");
        y.ask(0, 1);
        y.go(4);
        due("back(0)", y.back(0), NOT);
        due("hours", y.count(6), 4);
        due("asked", y.kite(0, 1), 1);
        due("hours up", y.kite(0, 3), 4);
    }
}
