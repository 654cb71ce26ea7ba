/** "Refused, and nothing changes", "FORETOLD (nothing changes)", and calls that only ask: by all that can be seen of an object. */
final class RefusalTests {
    private static final int NONE = -1, UNKNOWN = -2, OUTSIDE = -3, NOT = -4, FULL = -5;
    private static final int LOW = Integer.MIN_VALUE, HIGH = Integer.MAX_VALUE;
    private static final Sentences DOC = new Sentences();

    /** One call on an object. */
    private interface Call {
        long on(FishingKites kites);
    }

    /** Makes an object in some state, anew each time. */
    private interface State {
        FishingKites make();
    }

    private final State state;
    private final String look;

    private RefusalTests(State state) {
        this.state = state;
        this.look = Look.of(state.make());
    }

    public static void main(String[] args) {
        RefusalTests fresh = new RefusalTests(FishingKites::new);
        RefusalTests begun = new RefusalTests(RefusalTests::begun);
        RefusalTests ended = new RefusalTests(RefusalTests::ended);
        RefusalTests full = new RefusalTests(RefusalTests::full);
        for (RefusalTests each : new RefusalTests[] {fresh, begun, ended, full}) {
            each.texts();
            each.placesUnknown();
            each.daysRefused();
            each.foretoldRefused();
            each.asking();
        }
        for (RefusalTests each : new RefusalTests[] {begun, ended, full}) {
            each.numbersOfTold();
            each.askingOfTold();
        }
        fresh.nothingTold();
        ended.atTheEnd();
        full.noRoom();
        DOC.end(1, 23);
    }

    private static FishingKites told() {
        return Checks.told("wind 1 0 11 9 3;wind 2 0 11 9 4;wind 3 4 8 9 2;gulls 2;stock 20;law 1;fog 4 5",
            "kite 0 3 5 4 1 0;kite 1 3 4 4 2 1;kite 3 6 3 5 2 2;kite 4 8 2 4 1 0;shoal 0 3 3 1 1 60;shoal 2 7 3 1 1 50");
    }

    /** A day in which some hours have gone, both days are kept, and a text waits. */
    private static FishingKites begun() {
        FishingKites x = told();
        x.ask(0, 1);
        x.ask(1, 1);
        x.go(1);
        x.keep(0);
        x.ask(3, 2);
        x.go(2);
        x.keep(1);
        x.ask(0, 2);
        x.go(1);
        x.ask(4, 3);
        Checks.writeText(x, "law 2;stock 7");
        return x;
    }

    /** A day at its end, with one day kept, and a text with a fault. */
    private static FishingKites ended() {
        FishingKites x = told();
        x.ask(1, 1);
        x.ask(3, 2);
        x.go(12);
        x.keep(0);
        Checks.writeText(x, "law 2;stock 7;");
        return x;
    }

    /** As begun, but the text has no room. */
    private static FishingKites full() {
        FishingKites x = begun();
        Checks.writeText(x, " ".repeat(200 - 13));
        return x;
    }

    private void refused(String name, Call call, int want) {
        FishingKites x = state.make();
        DOC.due(name, call.on(x), want);
        DOC.holds(name + " changes nothing", Look.of(x).equals(look));
    }

    private void unchanged(String name, Call call) {
        FishingKites x = state.make();
        long first = call.on(x);
        DOC.due(name + ", again", call.on(x), first);
        DOC.holds(name + " changes nothing", Look.of(x).equals(look));
    }

    private void texts() {
        DOC.says(1, "a new object is as another, by the same calls");
        DOC.holds("two of them", Look.of(state.make()).equals(look));
        DOC.says(2, "OUTSIDE: nothing changes, when the text is full, too");
        for (int bad : new int[] {LOW, -1, 0, 9, HIGH}) {
            refused("write", x -> x.write(0x6d6c6163L, bad), OUTSIDE);
        }
        DOC.says(4, "the place of the FAULT: nothing changes");
        unchanged("fault", FishingKites::fault);
        DOC.says(6, "UNKNOWN; OUTSIDE: nothing changes");
        refused("height", x -> x.wind(0, 0, 0), UNKNOWN);
        refused("height", x -> x.wind(4, 0, 0), UNKNOWN);
        refused("hour", x -> x.wind(1, -1, 0), UNKNOWN);
        refused("hour", x -> x.wind(1, 12, 0), UNKNOWN);
        refused("what", x -> x.wind(1, 0, -1), OUTSIDE);
        refused("what", x -> x.wind(1, 0, 2), OUTSIDE);
        refused("height and what", x -> x.wind(0, 0, 2), UNKNOWN);
        DOC.says(7, "UNKNOWN: nothing changes");
        for (int bad : new int[] {LOW, -1, 1, 3, 4, HIGH}) {
            refused("shoal", x -> x.shoal(bad, 0), UNKNOWN);
            refused("shoal and what", x -> x.shoal(bad, 3), UNKNOWN);
        }
    }

    private void placesUnknown() {
        for (int bad : new int[] {LOW, -2, 2, 5, 6, HIGH}) {
            DOC.says(8, "UNKNOWN: nothing changes");
            refused("ask", x -> x.ask(bad, 2), UNKNOWN);
            refused("ask, and height", x -> x.ask(bad, 4), UNKNOWN);
            DOC.says(10, "UNKNOWN: nothing changes");
            refused("kite", x -> x.kite(bad, 0), UNKNOWN);
            refused("kite, and what", x -> x.kite(bad, 5), UNKNOWN);
            DOC.says(11, "UNKNOWN: nothing changes");
            refused("where", x -> x.where(bad, 1, 0), UNKNOWN);
            refused("where, and height", x -> x.where(bad, 4, 0), UNKNOWN);
            DOC.says(12, "UNKNOWN: nothing changes");
            refused("hinders", x -> x.hinders(bad, 1, 0), UNKNOWN);
            refused("hinders, and hour", x -> x.hinders(bad, 1, 12), UNKNOWN);
            DOC.says(13, "UNKNOWN: nothing changes");
            refused("tangle", x -> x.tangle(0, bad, 1, 0), UNKNOWN);
            refused("tangle", x -> x.tangle(bad, 0, 1, 0), UNKNOWN);
            refused("tangle, and itself", x -> x.tangle(bad, bad, 1, 0), UNKNOWN);
        }
    }

    private void daysRefused() {
        DOC.says(9, "OUTSIDE: nothing changes");
        for (int bad : new int[] {LOW, -1, 0, 13, HIGH}) {
            refused("go", x -> x.go(bad), OUTSIDE);
        }
        DOC.says(14, "OUTSIDE: nothing changes");
        refused("i", x -> x.taking(-1, 0), OUTSIDE);
        refused("what", x -> x.taking(0, 4), OUTSIDE);
        refused("both", x -> x.taking(LOW, -1), OUTSIDE);
        for (int bad : new int[] {LOW, -1, 2, HIGH}) {
            DOC.says(15, "UNKNOWN: nothing changes");
            refused("keep", x -> x.keep(bad), UNKNOWN);
            DOC.says(16, "UNKNOWN: nothing changes");
            refused("back", x -> x.back(bad), UNKNOWN);
        }
    }

    private void foretoldRefused() {
        for (int bad : new int[] {LOW, -2, 2, 5, 6, HIGH}) {
            DOC.says(17, "UNKNOWN: nothing changes");
            refused("best", x -> x.best(bad), UNKNOWN);
            DOC.says(18, "UNKNOWN: nothing changes");
            refused("allDay", x -> x.allDay(bad), UNKNOWN);
            DOC.says(21, "UNKNOWN: nothing changes");
            refused("cut", x -> x.cut(bad, 0, 0, 0, 0), UNKNOWN);
            refused("cut, and m", x -> x.cut(bad, 0, 41, 0, 0), UNKNOWN);
            DOC.says(22, "UNKNOWN: nothing changes");
            refused("share", x -> x.share(5, bad), UNKNOWN);
            refused("share, and n", x -> x.share(1000, bad), UNKNOWN);
        }
        for (int bad : new int[] {LOW, -1, 11, HIGH}) {
            DOC.says(19, "OUTSIDE: nothing changes");
            refused("laws", x -> x.laws(bad), OUTSIDE);
            DOC.says(20, "OUTSIDE: nothing changes");
            refused("food", x -> x.food(5, 1, 1, bad, 8, 0), OUTSIDE);
            DOC.says(23, "OUTSIDE: nothing changes");
            refused("count", x -> x.count(bad), OUTSIDE);
        }
    }

    /** Calls that are not refused, and only ask. */
    private void asking() {
        DOC.says(6, "nothing changes");
        unchanged("wind", x -> x.wind(3, 11, 1));
        DOC.says(14, "nothing changes");
        unchanged("taking", x -> x.taking(1, 3));
        unchanged("taking, far behind", x -> x.taking(HIGH, 3));
        DOC.says(17, "FORETOLD (nothing changes)");
        unchanged("best", x -> x.best(NONE));
        DOC.says(18, "FORETOLD (nothing changes)");
        unchanged("allDay", x -> x.allDay(NONE));
        DOC.says(19, "FORETOLD (nothing changes)");
        unchanged("laws", x -> x.laws(0));
        unchanged("laws", x -> x.laws(1));
        DOC.says(20, "FORETOLD (nothing changes)");
        unchanged("food", x -> x.food(9, 3, 4, 3, 8, 0));
        DOC.says(23, "nothing changes");
        for (int what = 0; what <= 10; what++) {
            int each = what;
            unchanged("count " + each, x -> x.count(each));
        }
    }

    private void askingOfTold() {
        DOC.says(7, "nothing changes");
        unchanged("shoal", x -> x.shoal(2, 2));
        DOC.says(10, "nothing changes");
        for (int what = 0; what <= 4; what++) {
            int each = what;
            unchanged("kite " + each, x -> x.kite(1, each));
        }
        DOC.says(11, "nothing changes");
        unchanged("where", x -> x.where(3, 2, 0));
        DOC.says(12, "nothing changes");
        unchanged("hinders", x -> x.hinders(3, 2, 0));
        DOC.says(13, "nothing changes");
        unchanged("tangle", x -> x.tangle(0, 1, 1, 0));
        DOC.says(17, "FORETOLD (nothing changes)");
        unchanged("best", x -> x.best(3));
        DOC.says(18, "FORETOLD (nothing changes)");
        unchanged("allDay", x -> x.allDay(4));
        DOC.says(21, "FORETOLD (nothing changes)");
        unchanged("cut", x -> x.cut(3, 0, 9, 5, 1));
        DOC.says(22, "FORETOLD (nothing changes)");
        unchanged("share", x -> x.share(999, 3));
    }

    /** What is refused of kites and shoals that are told. */
    private void numbersOfTold() {
        DOC.says(7, "OUTSIDE: nothing changes");
        refused("shoal", x -> x.shoal(0, 3), OUTSIDE);
        refused("shoal", x -> x.shoal(2, -1), OUTSIDE);
        for (int bad : new int[] {LOW, -1, 4, HIGH}) {
            DOC.says(8, "OUTSIDE: nothing changes");
            refused("ask", x -> x.ask(0, bad), OUTSIDE);
            DOC.says(11, "UNKNOWN: nothing changes");
            refused("where", x -> x.where(0, bad, 0), UNKNOWN);
            DOC.says(12, "UNKNOWN: nothing changes");
            refused("hinders", x -> x.hinders(0, bad, 0), UNKNOWN);
            DOC.says(13, "UNKNOWN: nothing changes");
            refused("tangle", x -> x.tangle(0, 1, bad, 0), UNKNOWN);
        }
        DOC.says(10, "OUTSIDE: nothing changes");
        refused("kite", x -> x.kite(0, 5), OUTSIDE);
        refused("kite", x -> x.kite(0, -1), OUTSIDE);
        DOC.says(13, "OUTSIDE: one and itself: nothing changes");
        refused("tangle", x -> x.tangle(1, 1, 1, 0), OUTSIDE);
        DOC.says(21, "UNKNOWN; OUTSIDE; NOT: nothing changes");
        refused("hour", x -> x.cut(1, 12, 0, 0, 0), UNKNOWN);
        refused("m", x -> x.cut(1, 0, 41, 0, 0), OUTSIDE);
        refused("p", x -> x.cut(1, 0, 0, 11, 0), OUTSIDE);
        refused("part", x -> x.cut(1, 0, 0, 0, 2), OUTSIDE);
        refused("m, and asked for 0 behind back", x -> x.cut(0, 0, -1, 0, 0), OUTSIDE);
        DOC.says(22, "OUTSIDE: nothing changes");
        refused("share", x -> x.share(1000, 0), OUTSIDE);
        refused("share", x -> x.share(-1, 0), OUTSIDE);
    }

    private void nothingTold() {
        DOC.says(5, "NOT: the empty text has a FAULT");
        refused("cliff", FishingKites::cliff, NOT);
        DOC.says(16, "NOT: nothing was kept");
        refused("back(0)", x -> x.back(0), NOT);
        refused("back(1)", x -> x.back(1), NOT);
        DOC.says(3, "THE TEXT is empty: it was");
        refused("erase", FishingKites::erase, 0);
    }

    private void atTheEnd() {
        DOC.says(5, "NOT: it has a FAULT, and nothing changes");
        refused("cliff", FishingKites::cliff, NOT);
        DOC.says(9, "no more than are left: none, and nothing changes");
        refused("go(1)", x -> x.go(1), 12);
        refused("go(12)", x -> x.go(12), 12);
        DOC.says(16, "NOT: that one was not kept, and nothing changes");
        refused("back(1)", x -> x.back(1), NOT);
        DOC.says(17, "NOT: no HOURS are left, and nothing changes");
        refused("best", x -> x.best(NONE), NOT);
        refused("best", x -> x.best(3), NOT);
        DOC.says(21, "NOT: it is ASKED for HEIGHT 0, and nothing changes");
        refused("cut", x -> x.cut(0, 0, 0, 0, 0), NOT);
        DOC.says(15, "kept again: it is as it was");
        refused("keep(0)", x -> x.keep(0), 12);
        DOC.says(16, "as it was kept: it is that already");
        refused("back(0)", x -> x.back(0), 12);
    }

    private void noRoom() {
        DOC.says(2, "FULL: nothing changes");
        for (int n = 1; n <= 8; n++) {
            int each = n;
            refused("write of " + each, x -> x.write(0x2020202020202020L, each), FULL);
        }
    }
}
