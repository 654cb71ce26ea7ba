/** Promises 17 to 23: each sentence that names a boundary of what is foretold or counted, by itself. */
final class ForetoldEdgeTests {
    private static final int NONE = -1, UNKNOWN = -2, OUTSIDE = -3, NOT = -4;
    private static final int LOW = Integer.MIN_VALUE, HIGH = Integer.MAX_VALUE;
    private static final Sentences DOC = new Sentences();

    private static void due(String call, long got, long want) {
        DOC.due(call, got, want);
    }

    public static void main(String[] args) {
        bestWhich();
        bestEach();
        bestHour();
        bestBy();
        bestRefused();
        allDayWhich();
        allDayWhole();
        allDayRefused();
        laws();
        lawsWhole();
        foodOdds();
        foodBounds();
        cutBegin();
        cutDrift();
        cutLowest();
        cutRefused();
        shares();
        sharesLeft();
        sharesRefused();
        countBits();
        countDay();
        DOC.end(17, 23);
    }

    private static void best(FishingKites x, int most, int... heights) {
        due("best(NONE)", x.best(NONE), most);
        for (int k = 0; k < heights.length; k++) {
            due("best(" + k + ")", x.best(k), heights[k]);
        }
    }

    private static void allDay(FishingKites x, int most, int... heights) {
        due("allDay(NONE)", x.allDay(NONE), most);
        for (int k = 0; k < heights.length; k++) {
            due("allDay(" + k + ")", x.allDay(k), heights[k]);
        }
    }

    private static final String ALL_WIND = "wind 1 0 11 9 3;wind 2 0 11 9 3;wind 3 0 11 9 3;stock 99";

    private static void bestWhich() {
        DOC.says(17, "HEIGHTS (0 .. 3) by which the CATCH of all together is greatest");
        for (int height = 1; height <= 3; height++) {
            best(Checks.told(ALL_WIND, "kite 0 3 5 5 2 0;shoal 0 3 " + (5 - height) + " 1 1 9"), 6, height);
        }
        best(Checks.told(ALL_WIND, "kite 0 3 5 5 2 0;shoal 0 3 1 1 1 9"), 0, 0);
        best(Checks.told(ALL_WIND, "kite 0 3 5 5 2 0"), 0, 0);
        DOC.says(17, "of several the first: that of the first KITE least");
        best(Checks.told(ALL_WIND, "kite 0 3 5 5 2 0;shoal 0 3 4 1 1 9;shoal 1 3 3 1 1 9;shoal 2 3 2 1 1 9"), 6, 1);
        best(Checks.told(ALL_WIND, "kite 0 3 5 5 2 0;shoal 1 3 3 1 1 9;shoal 2 3 2 1 1 9"), 6, 2);
        best(Checks.told(ALL_WIND, "kite 0 3 5 5 2 0;kite 1 3 5 5 2 0;shoal 0 3 3 1 1 6"), 6, 0, 2);
        best(Checks.told(ALL_WIND, "kite 0 3 5 5 2 0;kite 1 3 5 5 2 0;shoal 0 3 3 1 1 9;shoal 1 3 2 1 1 9"), 12, 2, 3);
        DOC.says(17, "how much: all told KITES together");
        String four = "shoal 0 0 3 1 1 99;shoal 1 2 3 1 1 99;shoal 2 4 3 1 1 99;shoal 3 6 3 1 1 99";
        best(Checks.told(ALL_WIND, "kite 0 0 5 4 9 0;kite 1 2 5 4 9 0;kite 2 4 5 4 9 0;kite 3 6 5 4 9 0", four), 108, 1, 1, 1, 1);
        best(Checks.told(ALL_WIND, "kite 0 0 5 4 9 0;kite 1 2 5 4 9 0;kite 2 4 5 4 9 0;kite 3 6 5 4 9 0;kite 4 6 5 5 9 0;kite 5 4 5 5 9 0", four),
            162, 1, 1, 1, 1, 2, 2);
        DOC.says(17, "for all told KITES: none is told");
        due("best(NONE)", Checks.told(ALL_WIND, "shoal 0 3 3 1 1 9").best(NONE), 0);
    }

    private static void bestEach() {
        DOC.says(17, "the HEIGHT of a KITE: of each");
        for (int k = 0; k < 6; k++) {
            FishingKites x = Checks.told(ALL_WIND, "kite " + k + " 3 5 5 2 0;shoal 3 3 3 1 1 99");
            due("best(" + k + ")", x.best(k), 2);
            due("best(NONE)", x.best(NONE), 6);
            due("allDay(" + k + ")", x.allDay(k), 2);
            due("allDay(NONE)", x.allDay(NONE), 72);
        }
        DOC.says(17, "of several the first: all six at 0, if nothing can be caught");
        String six = "kite 0 0 5 5 2 0;kite 1 1 5 5 2 0;kite 2 2 5 5 2 0;kite 3 3 5 5 2 0;kite 4 4 5 5 2 0;kite 5 5 5 5 2 0";
        best(Checks.told(ALL_WIND, six), 0, 0, 0, 0, 0, 0, 0);
        allDay(Checks.told(ALL_WIND, six), 0, 0, 0, 0, 0, 0, 0);
        DOC.says(17, "of several the first: the last KITE alone, if it alone can catch");
        best(Checks.told(ALL_WIND, six, "shoal 0 5 2 1 1 9"), 6, 0, 0, 0, 0, 0, 3);
        allDay(Checks.told(ALL_WIND, six, "shoal 0 5 2 1 1 9"), 9, 0, 0, 0, 0, 0, 3);
    }

    private static void bestHour() {
        DOC.says(17, "in the HOUR that comes");
        FishingKites x = Checks.told("wind 1 0 0 9 3;wind 2 1 10 9 3;wind 3 11 11 9 3", "kite 0 3 5 5 2 0;shoal 0 3 4 1 1 3;shoal 1 3 3 1 1 4;shoal 2 3 2 1 1 5");
        best(x, 3, 1);
        x.go(1);
        best(x, 4, 2);
        x.go(9);
        best(x, 4, 2);
        x.go(1);
        best(x, 5, 3);
        DOC.says(17, "in the HOUR that comes: what is caught there alone");
        FishingKites y = Checks.told(ALL_WIND, "kite 0 3 5 5 1 0;shoal 0 3 4 1 1 99");
        y.ask(0, 1);
        y.go(5);
        due("catch so far", y.count(8), 15);
        best(y, 3, 1);
        DOC.says(17, "in the HOUR that comes: SHOALS as they are now");
        FishingKites z = Checks.told(ALL_WIND, "kite 0 3 5 5 1 0;shoal 0 3 4 1 1 4;shoal 1 1 3 2 1 2");
        best(z, 3, 1);
        z.ask(0, 1);
        z.go(1);
        best(z, 1, 1);
        z.go(1);
        best(z, 2, 2);
        DOC.says(17, "NOT: no HOURS are left");
        z.go(9);
        due("one is left", z.best(NONE), 0);
        z.go(1);
        due("best(NONE)", z.best(NONE), NOT);
        due("best(0)", z.best(0), NOT);
    }

    private static void bestBy() {
        String two = "kite 0 3 5 5 2 0;kite 1 7 5 5 3 0;shoal 0 3 4 1 1 9;shoal 1 7 4 1 1 9";
        DOC.says(17, "the CATCH: what GULLS have is none");
        best(Checks.told(ALL_WIND, two, "gulls 1"), 0, 0, 0);
        best(Checks.told(ALL_WIND, two, "gulls 2"), 8, 1, 1);
        // one fish or two: one is left of each by two gulls
        best(Checks.told(ALL_WIND, "gulls 2;kite 0 3 5 5 2 0;shoal 0 3 4 1 1 1;shoal 1 3 3 1 1 2"), 1, 1);
        DOC.says(17, "by which most is caught: within STOCK");
        best(Checks.told(ALL_WIND, two, "stock 10"), 15, 1, 1);
        best(Checks.told(ALL_WIND, two, "stock 9"), 9, 0, 1);
        best(Checks.told(ALL_WIND, two, "stock 4"), 0, 0, 0);
        DOC.says(17, "by which most is caught: in FOG by those that were UP");
        FishingKites x = Checks.told(ALL_WIND, two, "fog 0 1");
        best(x, 0, 0, 0);
        FishingKites y = Checks.told(ALL_WIND, two, "fog 1 1");
        best(y, 15, 1, 1);
        y.ask(0, 3);
        y.go(1);
        best(y, 6, 1, 0);
        DOC.says(17, "by which most is caught: in FOG by those that were UP, at another HEIGHT, too");
        FishingKites other = Checks.told("wind 1 0 0 9 3;wind 2 1 1 9 3;fog 1 1;kite 0 3 5 5 2 0;shoal 0 3 3 1 1 9");
        other.ask(0, 1);
        other.go(1);
        best(other, 6, 2);
        DOC.says(17, "by which most is caught: by the LAW as it is told");
        // both can be at the shoal at height 1 alone; 0 is small and has the greater net
        String cross = "kite 0 3 1 5 9 0;kite 1 3 2 5 8 1;shoal 0 3 4 1 1 99";
        best(Checks.told(ALL_WIND, cross, "law 0"), 27, 1, 0);
        FishingKites z = Checks.told(ALL_WIND, cross, "law 0");
        z.ask(0, 1);
        z.ask(1, 1);
        z.go(1);
        due("and as it was asked", z.count(8), 24);
    }

    private static void bestRefused() {
        FishingKites x = Checks.told(ALL_WIND, "kite 0 3 5 5 2 0;kite 5 7 5 5 2 0;shoal 0 7 3 1 1 5");
        DOC.says(17, "how much (kite NONE), the HEIGHT of a KITE");
        due("best(-1)", x.best(-1), 5);
        due("best(0)", x.best(0), 0);
        due("best(5)", x.best(5), 2);
        DOC.says(17, "UNKNOWN");
        for (int bad : new int[] {LOW, -3, -2, 6, 7, HIGH}) {
            due("best(" + bad + ")", x.best(bad), UNKNOWN);
        }
        for (int k = 1; k <= 4; k++) {
            due("not told: best(" + k + ")", x.best(k), UNKNOWN);
        }
        DOC.says(17, "UNKNOWN; NOT: the first of these that fits");
        x.go(12);
        due("best(1)", x.best(1), UNKNOWN);
        due("best(-2)", x.best(-2), UNKNOWN);
        due("best(6)", x.best(6), UNKNOWN);
        due("best(-1)", x.best(-1), NOT);
        DOC.says(17, "FORETOLD (nothing changes)");
        FishingKites y = Checks.told(ALL_WIND, "kite 0 3 5 5 2 0;shoal 0 3 3 1 1 5");
        y.ask(0, 1);
        y.best(NONE);
        y.best(0);
        due("hours", y.count(6), 0);
        due("asked", y.kite(0, 1), 1);
        due("many", y.shoal(0, 2), 5);
        due("takings", y.count(7), 0);
    }

    private static void allDayWhich() {
        DOC.says(18, "one HEIGHT each for all HOURS");
        // at height 1 in hours 0 to 5, at height 2 in hours 6 to 11: only one of them can be had
        FishingKites x = Checks.told("wind 1 0 5 9 3;wind 2 6 11 9 3", "kite 0 3 5 5 1 0;shoal 0 3 4 1 1 99;shoal 1 3 3 1 1 99");
        allDay(x, 18, 1);
        allDay(Checks.told("wind 1 0 4 9 3;wind 2 5 11 9 3", "kite 0 3 5 5 1 0;shoal 0 3 4 1 1 99;shoal 1 3 3 1 1 99"), 21, 2);
        for (int height = 1; height <= 3; height++) {
            allDay(Checks.told(ALL_WIND, "kite 0 3 5 5 2 0;shoal 0 3 " + (5 - height) + " 1 1 99"), 72, height);
        }
        DOC.says(18, "likewise: of several the first");
        allDay(Checks.told(ALL_WIND, "kite 0 3 5 5 2 0;shoal 0 3 4 1 1 9;shoal 1 3 3 1 1 9"), 9, 1);
        allDay(Checks.told(ALL_WIND, "kite 0 3 5 5 2 0;kite 1 3 5 5 2 0;shoal 0 3 3 1 1 60"), 60, 0, 2);
        allDay(Checks.told(ALL_WIND, "kite 0 3 5 5 2 0;kite 1 3 5 5 2 0"), 0, 0, 0);
        DOC.says(18, "likewise: all told KITES together");
        String four = "shoal 0 0 3 1 1 99;shoal 1 2 3 1 1 99;shoal 2 4 3 1 1 99;shoal 3 6 3 1 1 99";
        allDay(Checks.told(ALL_WIND, "kite 0 0 5 4 9 0;kite 1 2 5 4 9 0;kite 2 4 5 4 9 0;kite 3 6 5 4 9 0;kite 4 6 5 4 9 0;kite 5 4 5 4 9 0", four),
            396, 1, 1, 0, 0, 1, 1);
        due("none is told", Checks.told(ALL_WIND, four).allDay(NONE), 0);
    }

    private static void allDayWhole() {
        DOC.says(18, "a whole DAY from its begin: whatever has gone");
        FishingKites x = Checks.told(ALL_WIND, "fog 0 0;kite 0 3 5 5 1 0;shoal 0 3 3 1 1 99;shoal 1 3 4 1 1 30");
        allDay(x, 33, 2);
        x.ask(0, 2);
        x.go(6);
        due("caught", x.count(8), 15);
        allDay(x, 33, 2);
        DOC.says(18, "a whole DAY: when no HOURS are left, too");
        x.go(12);
        due("best", x.best(NONE), NOT);
        allDay(x, 33, 2);
        DOC.says(18, "a whole DAY from its begin: behind back, too");
        x.keep(0);
        x.back(0);
        allDay(x, 33, 2);
        DOC.says(18, "for all HOURS of a whole DAY: the first and the last");
        allDay(Checks.told("wind 1 0 0 9 3;kite 0 3 5 5 1 0;shoal 0 3 4 1 1 99"), 3, 1);
        allDay(Checks.told("wind 1 11 11 9 3;kite 0 3 5 5 1 0;shoal 0 3 4 1 1 99"), 3, 1);
        DOC.says(18, "for all HOURS of a whole DAY: SHOALS that are met in one HOUR alone");
        allDay(Checks.told(ALL_WIND, "kite 0 3 5 5 1 0;shoal 0 3 4 2 1 99"), 3, 1);
        allDay(Checks.told(ALL_WIND, "kite 0 9 5 7 1 0;shoal 0 0 6 2 1 99"), 3, 1);
        allDay(Checks.told(ALL_WIND, "kite 0 3 5 5 1 0;shoal 0 3 4 2 1 99;shoal 1 0 3 2 1 99;shoal 2 1 3 2 1 99"), 6, 2);
        DOC.says(18, "a whole DAY: behind another text another");
        Checks.writeText(x, "calm;wind 1 0 11 9 3");
        due("cliff", x.cliff(), 2);
        allDay(x, 30, 1);
    }

    private static void allDayRefused() {
        FishingKites x = Checks.told(ALL_WIND, "kite 0 3 5 5 2 0;kite 5 7 5 5 2 0;shoal 0 7 3 1 1 5");
        DOC.says(18, "likewise: how much (kite NONE), the HEIGHT of a KITE");
        due("allDay(-1)", x.allDay(-1), 5);
        due("allDay(0)", x.allDay(0), 0);
        due("allDay(5)", x.allDay(5), 2);
        DOC.says(18, "UNKNOWN");
        for (int bad : new int[] {LOW, -3, -2, 6, 7, HIGH}) {
            due("allDay(" + bad + ")", x.allDay(bad), UNKNOWN);
        }
        for (int k = 1; k <= 4; k++) {
            due("not told: allDay(" + k + ")", x.allDay(k), UNKNOWN);
        }
        DOC.says(18, "FORETOLD (nothing changes)");
        due("hours", x.count(6), 0);
        due("asked", x.kite(5, 1), 0);
        due("many", x.shoal(0, 2), 5);
        due("takings", x.count(7), 0);
    }

    private static FishingKites crossing(String kites) {
        FishingKites x = Checks.told(ALL_WIND, kites, "shoal 0 3 3 1 1 99");
        x.ask(0, 1);
        x.ask(1, 1);
        return x;
    }

    private static void laws(FishingKites x, int law, int most) {
        due("laws(0)", x.laws(0), law);
        due("laws(1)", x.laws(1), most);
    }

    private static void laws() {
        DOC.says(19, "of 0 .. 2 that by which the CATCH of all together is greatest");
        // by size 1 stays (a net of 2), by clan and number 0 (a net of 1)
        laws(crossing("kite 0 3 1 4 1 0;kite 1 3 2 4 2 1"), 0, 72);
        // by clan 1 stays, by size and number 0
        laws(crossing("kite 0 3 2 4 1 1;kite 1 3 1 4 2 0"), 1, 72);
        // by number 0 stays, by size and clan 1
        laws(crossing("kite 0 3 1 4 2 1;kite 1 3 2 4 1 0"), 2, 72);
        DOC.says(19, "of several the least");
        laws(crossing("kite 0 3 2 4 2 0;kite 1 3 1 4 1 1"), 0, 72);
        laws(crossing("kite 0 3 1 4 2 0;kite 1 3 2 4 1 1"), 1, 72);
        laws(crossing("kite 0 3 2 4 2 1;kite 1 3 1 4 1 0"), 0, 72);
        laws(crossing("kite 0 3 1 4 0 0;kite 1 3 2 4 0 1"), 0, 0);
        laws(new FishingKites(), 0, 0);
        DOC.says(19, "OUTSIDE: what 0, 1");
        for (int bad : new int[] {LOW, -1, 2, HIGH}) {
            due("laws(" + bad + ")", new FishingKites().laws(bad), OUTSIDE);
        }
        DOC.says(19, "LAW beside one another: whatever is told");
        for (int law = 0; law <= 2; law++) {
            FishingKites x = crossing("law " + law + ";kite 0 3 1 4 2 1;kite 1 3 2 4 1 0");
            laws(x, 2, 72);
            due("and it stays", x.count(2), law);
        }
    }

    private static void lawsWhole() {
        DOC.says(19, "with HEIGHTS as ASKED now");
        FishingKites x = crossing("kite 0 3 1 4 2 1;kite 1 3 2 4 1 0");
        x.ask(0, 0);
        laws(x, 0, 36);
        x.ask(1, 0);
        laws(x, 0, 0);
        DOC.says(19, "with HEIGHTS as ASKED now: of each KITE");
        for (int k = 0; k < 6; k++) {
            FishingKites each = Checks.told(ALL_WIND, "kite " + k + " 3 5 5 1 0;shoal 0 3 3 1 1 99");
            each.ask(k, 2);
            laws(each, 0, 36);
        }
        DOC.says(19, "in a whole DAY: whatever has gone");
        FishingKites y = crossing("kite 0 3 1 4 2 1;kite 1 3 2 4 1 0");
        y.go(7);
        laws(y, 2, 72);
        y.go(12);
        laws(y, 2, 72);
        DOC.says(19, "in a whole DAY: FOG in HOUR 0, and nobody was UP ahead of it");
        FishingKites z = crossing("fog 0 0;kite 0 3 1 4 2 1;kite 1 3 2 4 1 0");
        z.go(12);
        laws(z, 2, 66);
        DOC.says(19, "FORETOLD (nothing changes)");
        due("hours", z.count(6), 12);
        due("catch", z.count(8), 33);
        due("many", z.shoal(0, 2), 66);
    }

    private static void food(int[] a, long above, long below) {
        FishingKites x = new FishingKites();
        String name = "food of " + a[0] + ", eaten " + a[1] + ", come " + a[2] + ", calm " + a[3] + ", days " + a[4];
        due(name + ", above", x.food(a[0], a[1], a[2], a[3], a[4], 0), above);
        due(name + ", below", x.food(a[0], a[1], a[2], a[3], a[4], 1), below);
    }

    private static void foodOdds() {
        DOC.says(20, "n days (0 .. 8): no day, no want");
        food(new int[] {0, 99, 0, 10, 0}, 1, 1);
        food(new int[] {0, 1, 0, 0, 0}, 1, 1);
        DOC.says(20, "enough on each day: just as many as are eaten");
        food(new int[] {5, 5, 0, 10, 1}, 1, 1);
        food(new int[] {4, 5, 0, 10, 1}, 0, 1);
        food(new int[] {40, 5, 0, 10, 8}, 1, 1);
        food(new int[] {39, 5, 0, 10, 8}, 0, 1);
        food(new int[] {792, 99, 0, 10, 8}, 1, 1);
        food(new int[] {791, 99, 0, 10, 8}, 0, 1);
        DOC.says(20, "c come ahead of eating");
        food(new int[] {0, 99, 99, 0, 1}, 1, 1);
        food(new int[] {0, 99, 98, 0, 1}, 0, 1);
        food(new int[] {1, 99, 98, 0, 1}, 1, 1);
        food(new int[] {1, 99, 98, 0, 2}, 0, 1);
        DOC.says(20, "each is calm by p tenths (0 .. 10), by itself; else c come");
        for (int p = 0; p <= 10; p++) {
            long[] above = {1, 9, 4, 7, 3, 1, 2, 3, 1, 1, 0};
            long[] below = {1, 10, 5, 10, 5, 2, 5, 10, 5, 10, 1};
            food(new int[] {0, 1, 1, p, 1}, above[p], below[p]);
        }
        food(new int[] {0, 1, 1, 3, 8}, 5764801, 100000000);
        food(new int[] {0, 1, 1, 5, 8}, 1, 256);
        DOC.says(20, "on each day: not in the end alone");
        // the first day is not calm, or there is not enough: 1/2; two come, so the second may be calm
        food(new int[] {0, 1, 2, 5, 2}, 1, 2);
        food(new int[] {0, 1, 99, 5, 8}, 1, 2);
        // one fish: one of the two days is not calm: 1 - 1/4
        food(new int[] {1, 1, 99, 5, 2}, 3, 4);
        DOC.says(20, "f fish (0 .. 999), e eaten (1 .. 99), c (0 .. 99): the greatest of all");
        food(new int[] {999, 99, 99, 10, 8}, 1, 1);
        food(new int[] {999, 99, 99, 0, 8}, 1, 1);
        food(new int[] {0, 1, 0, 0, 8}, 0, 1);
    }

    private static void foodBounds() {
        FishingKites x = new FishingKites();
        int[] least = {0, 1, 0, 0, 0, 0};
        int[] most = {999, 99, 99, 10, 8, 1};
        String[] names = {"f (0 .. 999)", "e (1 .. 99)", "c (0 .. 99)", "p (0 .. 10)", "n days (0 .. 8)", "part (0, 1)"};
        for (int i = 0; i < 6; i++) {
            DOC.says(20, "OUTSIDE: " + names[i]);
            for (int[] base : new int[][] {least, most}) {
                due("within", food(x, base, i, base[i]), 1);
                for (int bad : new int[] {LOW, least[i] - 1, most[i] + 1, HIGH}) {
                    due("number " + i + " is " + bad, food(x, base, i, bad), OUTSIDE);
                }
            }
        }
        DOC.says(20, "OUTSIDE: all at once");
        due("all too small", x.food(-1, 0, -1, -1, -1, -1), OUTSIDE);
        due("all too large", x.food(1000, 100, 100, 11, 9, 2), OUTSIDE);
    }

    private static long food(FishingKites x, int[] base, int i, int number) {
        int[] a = base.clone();
        a[i] = number;
        return x.food(a[0], a[1], a[2], a[3], a[4], a[5]);
    }

    private static void cut(FishingKites x, int[] a, long above, long below) {
        String name = "cut of " + a[0] + " in " + a[1] + ", to " + a[2] + " by " + a[3];
        due(name + ", above", x.cut(a[0], a[1], a[2], a[3], 0), above);
        due(name + ", below", x.cut(a[0], a[1], a[2], a[3], 1), below);
    }

    private static void cutBegin() {
        FishingKites x = Checks.told("wind 1 0 11 0 6;wind 2 0 11 0 0;wind 3 0 11 0 4", "kite 0 9 1 9 9 0;kite 1 0 1 9 9 0;kite 2 4 1 3 9 0");
        x.ask(0, 1);
        x.ask(1, 2);
        x.ask(2, 3);
        DOC.says(21, "begins at the x that it has there in that HOUR");
        cut(x, new int[] {2, 11, 5, 0}, 1, 1);
        cut(x, new int[] {2, 11, 6, 0}, 0, 1);
        DOC.says(21, "(in THE SEA or not)");
        // right of the sea, at 18; left of it, at -9
        cut(x, new int[] {0, 0, 18, 0}, 1, 1);
        cut(x, new int[] {0, 0, 19, 0}, 0, 1);
        cut(x, new int[] {1, 0, 0, 0}, 0, 1);
        cut(x, new int[] {1, 0, 0, 10}, 0, 1);
        // at -1: one more is 0
        FishingKites y = Checks.told("wind 1 0 10 0 2;wind 1 11 11 0 2;wind 2 10 10 0 2;wind 2 11 11 0 4", "kite 0 0 1 3 9 0");
        y.ask(0, 2);
        cut(y, new int[] {0, 10, 0, 10}, 0, 1);
        // from -1: 1 to the right, not 1 to the left
        cut(y, new int[] {0, 10, 0, 5}, 1, 4);
        DOC.says(21, "x is m (0 .. 40) or more in the end");
        // from 18: 36 more at most, 54
        cut(x, new int[] {0, 0, 40, 10}, 1, 1);
        cut(x, new int[] {0, 4, 40, 10}, 1, 1);
        cut(x, new int[] {0, 5, 39, 10}, 1, 1);
        cut(x, new int[] {0, 5, 40, 10}, 0, 1);
        cut(x, new int[] {0, 0, 0, 5}, 1, 1);
        DOC.says(21, "ASKED for a HEIGHT: that one");
        x.ask(2, 1);
        cut(x, new int[] {2, 11, 7, 0}, 1, 1);
        cut(x, new int[] {2, 11, 10, 10}, 1, 1);
        cut(x, new int[] {2, 11, 11, 10}, 0, 1);
    }

    private static void cutDrift() {
        DOC.says(21, "drifts in this HOUR and each one behind it to 11");
        FishingKites x = Checks.told("wind 1 0 0 0 6;wind 1 1 1 0 5;wind 1 10 10 0 5;wind 1 11 11 0 4", "kite 0 4 1 1 9 0");
        x.ask(0, 1);
        // hour 11: from 4 by 1; hour 10: by 2 and 1; hour 1: by 2, 2 and 1; hour 0: from 5 by 3, 2, 2 and 1
        int[][] hourFarthest = {{11, 5}, {10, 7}, {9, 7}, {2, 7}, {1, 9}, {0, 13}};
        for (int[] row : hourFarthest) {
            cut(x, new int[] {0, row[0], row[1], 10}, 1, 1);
            cut(x, new int[] {0, row[0], row[1] + 1, 10}, 0, 1);
        }
        DOC.says(21, "by p tenths (0 .. 10), by itself, else not");
        for (int p = 0; p <= 10; p++) {
            long[] above = {0, 1, 1, 3, 2, 1, 3, 7, 4, 9, 1};
            long[] below = {1, 10, 5, 10, 5, 2, 5, 10, 5, 10, 1};
            cut(x, new int[] {0, 11, 5, p}, above[p], below[p]);
        }
        // by 2 and 1: 3 needs both, 2 the first, 1 any
        cut(x, new int[] {0, 10, 7, 3}, 9, 100);
        cut(x, new int[] {0, 10, 6, 3}, 3, 10);
        cut(x, new int[] {0, 10, 5, 3}, 51, 100);
        DOC.says(21, "in a told HOUR: whatever has gone");
        x.go(12);
        cut(x, new int[] {0, 0, 13, 10}, 1, 1);
        DOC.says(21, "FORETOLD (nothing changes)");
        due("hours", x.count(6), 12);
        due("asked", x.kite(0, 1), 1);
    }

    private static void cutLowest() {
        DOC.says(21, "Parts are told in lowest terms: above (part 0), below (1)");
        FishingKites x = Checks.told("wind 1 0 11 0 6", "kite 0 0 1 1 9 0");
        x.ask(0, 1);
        // from 1, all of twelve hours by 3: 37
        cut(x, new int[] {0, 0, 37, 3}, 531441L, 1000000000000L);
        cut(x, new int[] {0, 0, 37, 5}, 1, 4096);
        cut(x, new int[] {0, 0, 38, 9}, 0, 1);
        cut(x, new int[] {0, 0, 1, 9}, 1, 1);
        // all but the case of no hour at all
        cut(x, new int[] {0, 0, 2, 1}, 1000000000000L - 282429536481L, 1000000000000L);
        // eleven or twelve of them: (12 * 3^11 * 7 + 3^12) / 10^12, and 13 / 2^12
        cut(x, new int[] {0, 0, 34, 3}, 12L * 177147 * 7 + 531441, 1000000000000L);
        cut(x, new int[] {0, 0, 34, 5}, 13, 4096);
        // (12 * 2^11 * 8 + 2^12) / 10^12 = 49 * 2^12 / 10^12
        cut(x, new int[] {0, 0, 34, 2}, 49, 244140625L);
    }

    private static void cutRefused() {
        FishingKites x = Checks.told("wind 1 0 11 0 6", "kite 0 0 1 1 9 0;kite 1 0 1 1 9 0");
        x.ask(0, 1);
        DOC.says(21, "UNKNOWN: no such KITE");
        for (int bad : new int[] {LOW, -1, 2, 5, 6, HIGH}) {
            due("cut(" + bad + ", 0, 0, 0, 0)", x.cut(bad, 0, 0, 0, 0), UNKNOWN);
        }
        DOC.says(21, "UNKNOWN: no such HOUR");
        for (int bad : new int[] {LOW, -1, 12, HIGH}) {
            due("cut(0, " + bad + ", 0, 0, 0)", x.cut(0, bad, 0, 0, 0), UNKNOWN);
        }
        DOC.says(21, "OUTSIDE: m, p, part");
        for (int bad : new int[] {LOW, -1, 41, HIGH}) {
            due("m " + bad, x.cut(0, 0, bad, 0, 0), OUTSIDE);
        }
        for (int bad : new int[] {LOW, -1, 11, HIGH}) {
            due("p " + bad, x.cut(0, 0, 0, bad, 0), OUTSIDE);
        }
        for (int bad : new int[] {LOW, -1, 2, HIGH}) {
            due("part " + bad, x.cut(0, 0, 0, 0, bad), OUTSIDE);
        }
        due("the least", x.cut(0, 0, 0, 0, 0), 1);
        due("the greatest", x.cut(0, 11, 40, 10, 1), 1);
        DOC.says(21, "NOT: it is ASKED for HEIGHT 0");
        due("cut(1, 0, 0, 0, 0)", x.cut(1, 0, 0, 0, 0), NOT);
        due("cut(1, 11, 40, 10, 1)", x.cut(1, 11, 40, 10, 1), NOT);
        x.ask(1, 3);
        due("asked for 3", x.cut(1, 0, 0, 0, 0), 1);
        x.ask(1, 0);
        due("asked for 0 again", x.cut(1, 0, 0, 0, 0), NOT);
        DOC.says(21, "UNKNOWN; OUTSIDE; NOT: the first of these that fits");
        due("kite and m", x.cut(2, 0, 41, 0, 0), UNKNOWN);
        due("kite and p", x.cut(6, 0, 0, 11, 0), UNKNOWN);
        due("hour and part", x.cut(0, 12, 0, 0, 2), UNKNOWN);
        due("hour, and asked for 0", x.cut(1, 12, 0, 0, 0), UNKNOWN);
        due("hour, m, and asked for 0", x.cut(1, -1, 41, 0, 0), UNKNOWN);
        due("m, and asked for 0", x.cut(1, 0, 41, 0, 0), OUTSIDE);
        due("m, and asked for 0", x.cut(1, 0, -1, 0, 0), OUTSIDE);
        due("p, and asked for 0", x.cut(1, 0, 0, 11, 0), OUTSIDE);
        due("p, and asked for 0", x.cut(1, 0, 0, -1, 0), OUTSIDE);
        due("part, and asked for 0", x.cut(1, 0, 0, 0, 2), OUTSIDE);
        due("part, and asked for 0", x.cut(1, 0, 0, 0, -1), OUTSIDE);
    }

    private static void share(FishingKites x, int n, int... due) {
        int sum = 0;
        for (int k = 0; k < due.length; k++) {
            due("share(" + n + ", " + k + ")", x.share(n, k), due[k]);
            sum += x.share(n, k);
        }
        due("all of " + n, sum, n);
    }

    private static void shares() {
        FishingKites x = Checks.told("kite 0 0 1 1 0 0;kite 1 0 1 2 0 0;kite 2 0 1 3 0 0;kite 3 0 1 4 0 0");
        DOC.says(22, "each told KITE has n times its LONG by all LONG, cut");
        share(x, 10, 1, 2, 3, 4);
        share(x, 990, 99, 198, 297, 396);
        DOC.says(22, "n fish (0 .. 999)");
        share(x, 0, 0, 0, 0, 0);
        share(x, 1, 0, 0, 0, 1);
        // 99.9, 199.8, 299.7, 399.6: three are left
        share(x, 999, 100, 200, 300, 399);
        DOC.says(22, "each told KITE: the only one has all");
        share(Checks.told("kite 0 0 1 1 0 0"), 999, 999);
        share(Checks.told("kite 0 0 1 9 0 0"), 999, 999);
        share(Checks.told("kite 0 0 1 9 0 0"), 0, 0);
        DOC.says(22, "each told KITE: one that is lost has none");
        FishingKites y = Checks.told("kite 0 0 1 1 0 0;kite 1 0 1 1 0 0;kite 5 0 1 9 0 0", "lost 5");
        share(y, 9, 5, 4);
        due("lost", y.share(9, 5), UNKNOWN);
    }

    private static void sharesLeft() {
        DOC.says(22, "what is left is given one each by those of the greatest rests");
        // by 1, 2, 4 of 7: of 5 it is 5/7, 10/7, 20/7: rests 5, 3, 6, two are left
        share(Checks.told("kite 0 0 1 1 0 0;kite 1 0 1 2 0 0;kite 2 0 1 4 0 0"), 5, 1, 1, 3);
        // of 4: 4/7, 8/7, 16/7: rests 4, 1, 2, one is left
        share(Checks.told("kite 0 0 1 1 0 0;kite 1 0 1 2 0 0;kite 2 0 1 4 0 0"), 4, 1, 1, 2);
        // the greatest rest is the last's
        share(Checks.told("kite 0 0 1 1 0 0;kite 1 0 1 1 0 0;kite 2 0 1 3 0 0"), 1, 0, 0, 1);
        DOC.says(22, "of several the lowest");
        String six = "kite 0 0 1 9 0 0;kite 1 0 1 9 0 0;kite 2 0 1 9 0 0;kite 3 0 1 9 0 0;kite 4 0 1 9 0 0;kite 5 0 1 9 0 0";
        share(Checks.told(six), 1, 1, 0, 0, 0, 0, 0);
        share(Checks.told(six), 5, 1, 1, 1, 1, 1, 0);
        share(Checks.told(six), 6, 1, 1, 1, 1, 1, 1);
        share(Checks.told(six), 999, 167, 167, 167, 166, 166, 166);
        FishingKites gap = Checks.told("kite 2 0 1 5 0 0;kite 4 0 1 5 0 0");
        due("the lowest that is told", gap.share(3, 2), 2);
        due("the other", gap.share(3, 4), 1);
    }

    private static void sharesRefused() {
        FishingKites x = Checks.told("kite 0 0 1 1 0 0;kite 5 0 1 1 0 0");
        DOC.says(22, "UNKNOWN");
        for (int bad : new int[] {LOW, -1, 1, 4, 6, HIGH}) {
            due("share(5, " + bad + ")", x.share(5, bad), UNKNOWN);
        }
        due("none is told", new FishingKites().share(5, 0), UNKNOWN);
        DOC.says(22, "OUTSIDE: n (0 .. 999)");
        for (int bad : new int[] {LOW, -1, 1000, HIGH}) {
            due("share(" + bad + ", 0)", x.share(bad, 0), OUTSIDE);
            due("share(" + bad + ", 5)", x.share(bad, 5), OUTSIDE);
        }
        DOC.says(22, "UNKNOWN; OUTSIDE: the first of these that fits");
        due("both", x.share(1000, 1), UNKNOWN);
        due("both", x.share(-1, 6), UNKNOWN);
        due("both, none is told", new FishingKites().share(-1, 0), UNKNOWN);
    }

    private static void countBits() {
        FishingKites x = new FishingKites();
        DOC.says(23, "0 KITES told, by bits");
        int bits = 0;
        for (int k = 0; k <= 5; k++) {
            due("count(0)", x.count(0), bits);
            Checks.writeText(x, "kite " + k + " 0 1 1 0 0");
            x.cliff();
            bits |= 1 << k;
        }
        due("all", x.count(0), 63);
        DOC.says(23, "1 SHOALS told, by bits");
        for (int s = 3; s >= 0; s--) {
            Checks.writeText(x, "shoal " + s + " 0 1 0 0 0");
            x.cliff();
            due("count(1)", x.count(1), 16 - (1 << s));
        }
        DOC.says(23, "2 LAW, 3 STOCK, 4 FOG, by bits of HOURS, 5 GULLS: the greatest");
        Checks.writeText(x, "law 2;stock 99;fog 0 11;gulls 9");
        x.cliff();
        int[] want = {63, 15, 2, 99, 4095, 9, 0, 0, 0, 0, 0};
        for (int what = 0; what <= 10; what++) {
            due("count(" + what + ")", x.count(what), want[what]);
        }
        DOC.says(23, "2 LAW, 3 STOCK, 4 FOG, by bits of HOURS, 5 GULLS: the least");
        Checks.writeText(x, "calm;law 0;stock 0");
        x.cliff();
        for (int what = 2; what <= 5; what++) {
            due("count(" + what + ")", x.count(what), 0);
        }
        DOC.says(23, "OUTSIDE: what 0 .. 10");
        for (int bad : new int[] {LOW, -1, 11, HIGH}) {
            due("count(" + bad + ")", x.count(bad), OUTSIDE);
        }
    }

    private static void countDay() {
        FishingKites x = Checks.told("wind 1 0 11 9 3;gulls 2", "kite 0 2 5 4 1 0;kite 1 5 5 4 1 0;shoal 0 2 3 1 1 99;shoal 1 5 3 1 1 4");
        x.ask(0, 1);
        x.ask(1, 1);
        DOC.says(23, "6 HOURS that have gone");
        for (int hour = 0; hour <= 12; hour++) {
            due("count(6)", x.count(6), hour);
            x.go(1);
        }
        due("no more", x.count(6), 12);
        DOC.says(23, "7 TAKINGS");
        due("12 of one, 2 of the other", x.count(7), 14);
        DOC.says(23, "8 CATCH of all");
        due("2 in each hour, and 2 and 1", x.count(8), 24 + 3);
        due("of each", x.kite(0, 2) + x.kite(1, 2), 27);
        DOC.says(23, "9 what GULLS have");
        due("1 in each hour, and 1", x.count(9), 12 + 1);
        DOC.says(23, "10 bytes of THE TEXT");
        due("none", x.count(10), 0);
        Checks.writeText(x, " ".repeat(200));
        due("as many as can be", x.count(10), 200);
        x.erase();
        due("none again", x.count(10), 0);
    }
}
