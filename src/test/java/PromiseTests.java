/** Each promise with ordinary inputs, the edges that the document names, and wrong inputs. */
final class PromiseTests {
    private static final int NONE = -1, UNKNOWN = -2, OUTSIDE = -3, NOT = -4, FULL = -5;
    private static final int LOW = Integer.MIN_VALUE, HIGH = Integer.MAX_VALUE;
    private static final Checks CHECKS = new Checks();

    private static void due(String call, long got, long want) {
        CHECKS.due(call, got, want);
    }

    public static void main(String[] args) {
        newObject();
        write();
        erase();
        faultWords();
        faultNumbers();
        faultLines();
        faultBytes();
        cliff();
        cliffBeginsDay();
        wind();
        shoal();
        ask();
        go();
        kite();
        where();
        hinders();
        tangle();
        hourRises();
        hourFog();
        hourTangles();
        hourTakes();
        taking();
        keepAndBack();
        best();
        allDay();
        laws();
        food();
        cut();
        share();
        count();
        CHECKS.end();
    }

    /** Promise 1. */
    private static void newObject() {
        FishingKites x = new FishingKites();
        for (int what = 0; what <= 10; what++) {
            due("1 count(" + what + ")", x.count(what), what == 3 ? 30 : 0);
        }
        for (int k = -1; k <= 6; k++) {
            due("1 kite", x.kite(k, 0), UNKNOWN);
            due("1 shoal", x.shoal(k, 0), UNKNOWN);
        }
        for (int height = 1; height <= 3; height++) {
            for (int hour = 0; hour < 12; hour++) {
                due("1 wind", x.wind(height, hour, 0), 0);
                due("1 wind", x.wind(height, hour, 1), 3);
            }
        }
        due("1 fault", x.fault(), 0);
        due("1 back", x.back(0), NOT);
        due("1 NONE", FishingKites.NONE, NONE);
        due("1 UNKNOWN", FishingKites.UNKNOWN, UNKNOWN);
        due("1 OUTSIDE", FishingKites.OUTSIDE, OUTSIDE);
        due("1 NOT", FishingKites.NOT, NOT);
        due("1 FULL", FishingKites.FULL, FULL);
    }

    /** Promise 2. */
    private static void write() {
        FishingKites x = new FishingKites();
        due("2 n 0", x.write(1, 0), OUTSIDE);
        due("2 n 9", x.write(1, 9), OUTSIDE);
        due("2 n least", x.write(1, LOW), OUTSIDE);
        due("2 n most", x.write(1, HIGH), OUTSIDE);
        due("2 nothing written", x.count(10), 0);
        // only the lowest n bytes count, the first of them lowest
        due("2 turned round", x.write(0x63616c6dL, 4), 4);
        due("2 turned round, read", x.fault(), 0);
        x.erase();
        due("2 calm", x.write(0x21212121_6d6c6163L, 4), 4);
        due("2 calm read", x.fault(), NONE);
        x.erase();
        for (int i = 1; i <= 25; i++) {
            due("2 eight", x.write(-1L, 8), 8 * i);
        }
        due("2 full", x.write(32, 1), FULL);
        due("2 outside ahead of full", x.write(32, 9), OUTSIDE);
        due("2 still 200", x.count(10), 200);
        x.erase();
        for (int i = 1; i <= 28; i++) {
            due("2 seven", x.write(32, 7), 7 * i);
        }
        due("2 five too many", x.write(32, 5), FULL);
        due("2 four", x.write(32, 4), 200);
        // the uppermost byte of a negative row is one byte, not a sign
        FishingKites y = new FishingKites();
        Checks.writeText(y, "law 1;la");
        due("2 negative", y.write(0xff20202020322077L, 8), 16);
        due("2 negative fault", y.fault(), 15);
    }

    /** Promise 3. */
    private static void erase() {
        FishingKites x = new FishingKites();
        due("3 empty", x.erase(), 0);
        Checks.writeText(x, "law 2");
        due("3 five", x.erase(), 5);
        due("3 again", x.erase(), 0);
        due("3 nothing told", x.count(2), 0);
        due("3 cliff", x.cliff(), NOT);
        FishingKites y = Checks.told("law 2;kite 0 1 1 1 1 1");
        y.ask(0, 2);
        y.go(2);
        y.keep(0);
        Checks.writeText(y, "law 1");
        y.erase();
        due("3 told stays", y.count(2), 2);
        due("3 hours stay", y.count(6), 2);
        due("3 kept stays", y.back(0), 2);
    }

    private static void fault(String text, int want) {
        due("4 fault of '" + text + "'", Checks.faultOf(new FishingKites(), text), want);
    }

    /** Promise 4: words. */
    private static void faultWords() {
        fault("wind 1 0 11 9 6", NONE);
        fault("kite 5 9 5 9 9 2", NONE);
        fault("shoal 3 9 6 2 2 99", NONE);
        fault("law 2", NONE);
        fault("stock 99", NONE);
        fault("fog 0 11", NONE);
        fault("gulls 9", NONE);
        fault("calm", NONE);
        fault("lost 5", NONE);
        fault("wind 1 0 0 0 0", NONE);
        fault("kite 0 0 1 1 0 0", NONE);
        fault("shoal 0 0 1 0 0 0", NONE);
        fault("law 0", NONE);
        fault("stock 0", NONE);
        fault("fog 0 0", NONE);
        fault("gulls 0", NONE);
        fault("lost 0", NONE);
        fault("", 0);
        fault("   ", 3);
        fault("win", 0);
        fault("winds 1 0 11 9 6", 0);
        fault("  kit 1", 2);
        fault("calmcalm", 0);
        fault("calm calm", 5);
        fault("Calm", 0);
        fault("caLm", 0);
        fault("7", 0);
        fault(";", 0);
        fault("law law", 4);
        fault("law", 3);
        fault("law  ", 5);
        fault("calm.", 4);
    }

    /** Promise 4: numbers and their bounds. */
    private static void faultNumbers() {
        fault("wind 0 0 11 9 6", 5);
        fault("wind 4 0 11 9 6", 5);
        fault("wind 1 12 12 9 6", 7);
        fault("wind 1 7 6 9 6", 9);
        fault("wind 1 7 7 9 6", NONE);
        fault("wind 1 0 12 9 6", 9);
        fault("wind 1 0 11 10 6", 12);
        fault("wind 1 0 11 9 7", 14);
        fault("wind 1 0 11 9", 13);
        fault("wind 1 0 11 9 6 0", 16);
        fault("kite 6 0 1 1 0 0", 5);
        fault("kite 0 10 1 1 0 0", 7);
        fault("kite 0 0 0 1 0 0", 9);
        fault("kite 0 0 6 1 0 0", 9);
        fault("kite 0 0 1 0 0 0", 11);
        fault("kite 0 0 1 10 0 0", 11);
        fault("kite 0 0 1 1 10 0", 13);
        fault("kite 0 0 1 1 0 3", 15);
        fault("kite 0 0 1 1 0", 14);
        fault("shoal 4 0 1 0 0 0", 6);
        fault("shoal 0 10 1 0 0 0", 8);
        fault("shoal 0 0 0 0 0 0", 10);
        fault("shoal 0 0 7 0 0 0", 10);
        fault("shoal 0 0 1 3 0 0", 12);
        fault("shoal 0 0 1 0 3 0", 14);
        fault("shoal 0 0 1 0 0 100", 16);
        fault("law 3", 4);
        fault("stock 100", 6);
        fault("fog 12 12", 4);
        fault("fog 5 4", 6);
        fault("fog 5 5", NONE);
        fault("fog 5 12", 6);
        fault("gulls 10", 6);
        fault("calm 0", 5);
        fault("lost 6", 5);
        fault("lost 05", NONE);
        fault("lost 005", 5);
        fault("lost 00000000000000000000005", 5);
        fault("stock 099", 6);
        fault("stock 4294967297", 6);
        fault("law -1", 4);
        fault("law 1 1", 6);
        fault("law 1x", 5);
        fault("law x", 4);
    }

    /** Promise 4: lines, blanks, ends. */
    private static void faultLines() {
        fault("law 1;law 2", NONE);
        fault("law 1;", 6);
        fault("law 1; ", 7);
        fault("law 1;;law 1", 6);
        fault(";law 1", 0);
        fault("law 1 law 2", 6);
        fault("law1;law2", NONE);
        fault("wind1 0 11 9 6;kite0 0 1 1 0 0", NONE);
        fault("   law   1   ;   law   2   ", NONE);
        fault("l aw 1", 0);
        fault("stock 9 9", 8);
        String nine = "calm;calm;calm;calm;calm;calm;calm;calm;calm;";
        fault(nine + "calm", NONE);
        fault(nine + "calm ", NONE);
        fault(nine + "calm;", 49);
        fault(nine + "calm  ;calm", 51);
        fault(nine, 45);
        fault(nine + "calm calm", 50);
        // the first fault counts, not a later one
        fault("law 3;law 3", 4);
        fault("law 1;law 3;x", 10);
        String full = "law 1" + " ".repeat(195);
        fault(full, NONE);
        fault("law" + " ".repeat(197), 200);
        fault(" ".repeat(199) + "x", 199);
        fault("x".repeat(200), 0);
        fault("law " + "1".repeat(196), 4);
    }

    /** Promise 4: bytes that are no sign of a text. */
    private static void faultBytes() {
        for (int b = 0; b < 256; b++) {
            boolean mayStand = b == ' ' || b >= '0' && b <= '9';
            int behind = b == ' ' ? NONE : b == ';' ? 6 : b >= '0' && b <= '9' ? 4 : 5;
            fault("law 1" + (char) b, behind == NONE ? NONE : behind);
            fault("law " + (char) b, mayStand && b != ' ' ? b <= '2' ? NONE : 4 : b == ' ' ? 5 : 4);
        }
    }

    /** Promise 5. */
    private static void cliff() {
        FishingKites x = new FishingKites();
        due("5 empty", x.cliff(), NOT);
        Checks.writeText(x, "law 1;stock 7;law 3");
        due("5 fault", x.cliff(), NOT);
        due("5 no line done", x.count(2), 0);
        due("5 no line done", x.count(3), 30);
        due("5 text stays", x.erase(), 19);
        Checks.writeText(x, "law 1;stock 7;law 2");
        due("5 lines", x.cliff(), 3);
        due("5 in their order", x.count(2), 2);
        due("5 stock", x.count(3), 7);
        due("5 text is empty", x.count(10), 0);
        due("5 again", x.cliff(), NOT);
        FishingKites y = Checks.told("kite 2 1 2 3 4 1;shoal 1 4 5 0 2 6;fog 1 2;fog 4 4;gulls 3;wind 2 3 5 8 0");
        due("5 kites", y.count(0), 4);
        due("5 shoals", y.count(1), 2);
        due("5 fog adds", y.count(4), 0b10110);
        Checks.writeText(y, "fog 0 0");
        y.cliff();
        due("5 fog of earlier texts stays", y.count(4), 0b10111);
        due("5 wind stays", y.wind(2, 3, 0), 8);
        due("5 kites stay", y.count(0), 4);
        due("5 shoals stay", y.count(1), 2);
        due("5 gulls stay", y.count(5), 3);
        Checks.writeText(y, "calm");
        due("5 calm", y.cliff(), 1);
        due("5 no wind", y.wind(2, 3, 0), 0);
        due("5 no drift", y.wind(2, 3, 1), 3);
        due("5 no fog", y.count(4), 0);
        due("5 no gulls", y.count(5), 0);
        due("5 kites in calm", y.count(0), 4);
        Checks.writeText(y, "lost 2;lost 3;kite 3 1 1 1 1 1;kite 4 1 1 1 1 1;lost 4;kite 4 2 2 2 2 2");
        due("5 lost", y.cliff(), 6);
        due("5 lost and told", y.count(0), 0b11000);
        Checks.writeText(y, "gulls 5;calm;gulls 2;fog 3 3;wind 1 0 0 1 1;wind 1 0 11 2 2;wind 1 4 4 3 3");
        due("5 later lines", y.cliff(), 7);
        due("5 gulls behind calm", y.count(5), 2);
        due("5 fog behind calm", y.count(4), 8);
        due("5 wind over wind", y.wind(1, 0, 0), 2);
        due("5 wind over wind", y.wind(1, 4, 1), 3);
        due("5 wind over wind", y.wind(1, 5, 1), 2);
    }

    /** Promise 5: behind a text it is hour 0, nobody is asked, nothing is caught or kept. */
    private static void cliffBeginsDay() {
        FishingKites x = Checks.told("wind 1 0 11 9 3;kite 0 3 5 4 5 0;kite 1 3 5 4 5 0;shoal 0 3 3 1 1 99;gulls 3");
        x.ask(0, 1);
        x.ask(1, 1);
        x.go(3);
        x.keep(0);
        x.keep(1);
        due("5 gave way", x.kite(1, 4), 3);
        due("5 caught", x.count(8), 30);
        Checks.writeText(x, "law 2");
        x.cliff();
        for (int k = 0; k < 2; k++) {
            for (int what = 0; what <= 4; what++) {
                due("5 kite " + what, x.kite(k, what), 0);
            }
            due("5 nothing kept", x.back(k), NOT);
        }
        due("5 hour", x.count(6), 0);
        due("5 takings", x.count(7), 0);
        due("5 catch", x.count(8), 0);
        due("5 gulls have", x.count(9), 0);
        due("5 taking", x.taking(0, 0), NONE);
        due("5 shoal as told", x.shoal(0, 2), 99);
    }

    /** Promise 6. */
    private static void wind() {
        FishingKites x = Checks.told("wind 1 0 0 9 0;wind 2 3 7 4 6;wind 3 11 11 1 4");
        due("6", x.wind(1, 0, 0), 9);
        due("6", x.wind(1, 0, 1), 0);
        due("6", x.wind(1, 1, 0), 0);
        due("6", x.wind(1, 1, 1), 3);
        due("6", x.wind(2, 2, 0), 0);
        due("6", x.wind(2, 3, 0), 4);
        due("6", x.wind(2, 7, 1), 6);
        due("6", x.wind(2, 8, 1), 3);
        due("6", x.wind(3, 10, 0), 0);
        due("6", x.wind(3, 11, 0), 1);
        due("6", x.wind(3, 11, 1), 4);
        for (int bad : new int[] {LOW, -1, 0, 4, HIGH}) {
            due("6 height", x.wind(bad, 0, 0), UNKNOWN);
            due("6 height ahead of what", x.wind(bad, 0, 9), UNKNOWN);
        }
        for (int bad : new int[] {LOW, -1, 12, HIGH}) {
            due("6 hour", x.wind(1, bad, 0), UNKNOWN);
        }
        for (int bad : new int[] {LOW, -1, 2, HIGH}) {
            due("6 what", x.wind(1, 0, bad), OUTSIDE);
        }
    }

    /** Promise 7. */
    private static void shoal() {
        FishingKites x = Checks.told("shoal 0 0 1 0 0 7;shoal 3 9 6 2 2 99;shoal 2 5 3 1 2 0");
        due("7 x", x.shoal(0, 0), 100);
        due("7 y", x.shoal(0, 1), 101);
        due("7 many", x.shoal(0, 2), 7);
        due("7 none", x.shoal(2, 2), 0);
        x.go(1);
        due("7 moved", x.shoal(0, 0), 99);
        due("7 moved", x.shoal(0, 1), 100);
        due("7 moved", x.shoal(2, 0), 105);
        due("7 moved", x.shoal(2, 1), 104);
        x.go(11);
        due("7 far", x.shoal(3, 0), 121);
        due("7 far", x.shoal(3, 1), 118);
        due("7 far", x.shoal(0, 0), 88);
        due("7 far", x.shoal(0, 1), 89);
        due("7 many stay", x.shoal(3, 2), 99);
        due("7 not told", x.shoal(1, 0), UNKNOWN);
        due("7 not told ahead of what", x.shoal(1, 3), UNKNOWN);
        for (int bad : new int[] {LOW, -1, 4, HIGH}) {
            due("7 shoal", x.shoal(bad, 0), UNKNOWN);
        }
        for (int bad : new int[] {LOW, -1, 3, HIGH}) {
            due("7 what", x.shoal(0, bad), OUTSIDE);
        }
    }

    /** Promise 8. */
    private static void ask() {
        FishingKites x = Checks.told("kite 0 1 1 1 1 1;kite 5 1 1 1 1 1");
        due("8 first", x.ask(0, 3), 0);
        due("8 then", x.ask(0, 1), 3);
        due("8 another", x.ask(5, 2), 0);
        due("8 none", x.ask(0, 0), 1);
        due("8 again", x.ask(0, 0), 0);
        for (int bad : new int[] {LOW, -1, 1, 6, HIGH}) {
            due("8 kite", x.ask(bad, 1), UNKNOWN);
            due("8 kite ahead of height", x.ask(bad, 4), UNKNOWN);
        }
        for (int bad : new int[] {LOW, -1, 4, HIGH}) {
            due("8 height", x.ask(5, bad), OUTSIDE);
        }
        due("8 refused changes nothing", x.kite(5, 1), 2);
        x.go(12);
        due("8 behind the day", x.ask(5, 1), 2);
        due("8 behind the day", x.kite(5, 1), 1);
    }

    /** Promise 9. */
    private static void go() {
        FishingKites x = new FishingKites();
        for (int bad : new int[] {LOW, -1, 0, 13, HIGH}) {
            due("9 n", x.go(bad), OUTSIDE);
        }
        due("9 none gone", x.count(6), 0);
        due("9 one", x.go(1), 1);
        due("9 ten", x.go(10), 11);
        due("9 no more than left", x.go(12), 12);
        due("9 none left", x.go(1), 12);
        due("9 outside at the end", x.go(13), OUTSIDE);
        due("9 all", new FishingKites().go(12), 12);
    }

    /** Promise 10. */
    private static void kite() {
        FishingKites x = Checks.told("wind 1 0 3 9 3;kite 0 3 5 4 5 0;kite 1 3 4 4 2 0;shoal 0 3 3 1 1 40");
        x.ask(0, 1);
        x.ask(1, 1);
        x.go(2);
        due("10 up", x.kite(0, 0), 1);
        due("10 not up", x.kite(1, 0), 0);
        due("10 asked", x.kite(1, 1), 1);
        due("10 catch", x.kite(0, 2), 30);
        due("10 no catch", x.kite(1, 2), 0);
        due("10 hours", x.kite(0, 3), 2);
        due("10 hours", x.kite(1, 3), 0);
        due("10 gave way", x.kite(0, 4), 0);
        due("10 gave way", x.kite(1, 4), 2);
        x.ask(0, 2);
        due("10 still up in the last hour", x.kite(0, 0), 1);
        x.go(1);
        due("10 no wind there", x.kite(0, 0), 0);
        due("10 up now", x.kite(1, 0), 1);
        due("10 takes", x.kite(1, 2), 6);
        x.go(9);
        due("10 hours of wind", x.kite(1, 3), 2);
        due("10 rest", x.kite(1, 2), 10);
        due("10 gave way in two", x.kite(1, 4), 2);
        due("10 not up at the end", x.kite(1, 0), 0);
        for (int bad : new int[] {LOW, -1, 2, 6, HIGH}) {
            due("10 kite", x.kite(bad, 0), UNKNOWN);
            due("10 kite ahead of what", x.kite(bad, 5), UNKNOWN);
        }
        for (int bad : new int[] {LOW, -1, 5, HIGH}) {
            due("10 what", x.kite(0, bad), OUTSIDE);
        }
    }

    /** Promise 11. */
    private static void where() {
        FishingKites x = Checks.told("wind 1 0 0 0 1;wind 1 1 1 0 0;wind 1 2 2 0 4;wind 1 3 3 0 6;wind 1 4 4 0 5",
            "kite 0 4 1 4 9 0;kite 1 9 1 7 0 0;kite 2 0 1 1 0 0;kite 3 2 1 8 0 0;kite 4 1 1 9 0 0");
        due("11 -8 by 3 cut towards 0", x.where(0, 1, 0), 2 + 30);
        due("11 -12 by 3", x.where(0, 1, 1), 0 + 30);
        due("11 4 by 3", x.where(0, 1, 2), 5 + 30);
        due("11 12 by 3", x.where(0, 1, 3), 8 + 30);
        due("11 no lift is no matter", x.where(0, 2, 0), 4 + 20);
        due("11 nearest", x.where(0, 3, 0), 4 + 10);
        due("11 too near", x.where(2, 1, 5), NONE);
        due("11 too near", x.where(2, 3, 5), NONE);
        due("11 farthest", x.where(1, 1, 5), 69);
        due("11 too far", x.where(3, 1, 5), NONE);
        due("11 farthest at 2", x.where(3, 2, 5), 62);
        due("11 9 at 3", x.where(4, 3, 5), 61);
        due("11 right of the sea", x.where(1, 1, 2), NONE);
        FishingKites z = Checks.told("wind 2 0 0 0 4;wind 2 1 1 0 2", "kite 0 9 1 3 0 0;kite 1 8 1 3 0 0;kite 2 0 1 3 0 0;kite 3 1 1 3 0 0");
        due("11 x 10", z.where(0, 2, 0), NONE);
        due("11 x 9", z.where(1, 2, 0), 19);
        due("11 x -1", z.where(2, 2, 1), NONE);
        due("11 x 0", z.where(3, 2, 1), 10);
        due("11 left of the sea", x.where(4, 1, 1), NONE);
        // 9 - 14/3 = 9 - 4
        due("11 in from the right", x.where(1, 1, 0), 65);
        for (int bad : new int[] {LOW, -1, 5, 6, HIGH}) {
            due("11 kite", x.where(bad, 1, 0), UNKNOWN);
        }
        for (int bad : new int[] {LOW, -1, 0, 4, HIGH}) {
            due("11 height", x.where(0, bad, 0), UNKNOWN);
        }
        for (int bad : new int[] {LOW, -1, 12, HIGH}) {
            due("11 hour", x.where(0, 1, bad), UNKNOWN);
        }
    }

    /** Promise 12. */
    private static void hinders() {
        FishingKites x = Checks.told("wind 1 0 5 2 3;wind 2 0 5 3 3;wind 3 0 11 9 6;fog 0 11;stock 0",
            "kite 0 4 3 4 7 0;kite 1 9 1 7 0 0;kite 2 0 2 4 4 0");
        due("12 6 below 7", x.hinders(0, 1, 0), 1);
        due("12 9 above 7", x.hinders(0, 2, 0), 0);
        due("12 just enough", x.hinders(2, 1, 0), 0);
        due("12 no wind", x.hinders(0, 1, 6), 1);
        due("12 no net needs no wind", x.hinders(1, 1, 6), 0);
        due("12 out of the sea", x.hinders(1, 3, 0), 2);
        due("12 in the sea, at 3", x.hinders(2, 3, 0), 0);
        FishingKites y = Checks.told("kite 0 4 1 9 9 0");
        due("12 out of the sea ahead of no lift", y.hinders(0, 1, 0), 2);
        due("12 no lift", y.hinders(0, 3, 0), 1);
        for (int bad : new int[] {LOW, -1, 3, 6, HIGH}) {
            due("12 kite", x.hinders(bad, 1, 0), UNKNOWN);
        }
        for (int bad : new int[] {LOW, -1, 0, 4, HIGH}) {
            due("12 height", x.hinders(0, bad, 0), UNKNOWN);
        }
        for (int bad : new int[] {LOW, -1, 12, HIGH}) {
            due("12 hour", x.hinders(0, 1, bad), UNKNOWN);
        }
    }

    /** Promise 13. */
    private static void tangle() {
        String kites = "kite 0 2 3 6 1 2;kite 1 4 3 3 1 1;kite 2 4 2 6 1 1;kite 3 5 5 3 1 2";
        FishingKites x = Checks.told("wind 1 0 0 1 5;wind 1 1 1 1 6;wind 2 0 0 1 4", kites);
        // at drift 2: x 6, 6, 8, 7; at drift 1: 4, 5, 6, 6; at none: 2, 4, 4, 5
        due("13 alike x, sizes alike", x.tangle(0, 1, 1, 0), 1);
        due("13 the other way round", x.tangle(1, 0, 1, 0), 1);
        due("13 apart", x.tangle(0, 1, 2, 0), NONE);
        due("13 posts alike always, lesser size", x.tangle(1, 2, 3, 0), 2);
        due("13 posts alike always", x.tangle(2, 1, 1, 0), 2);
        due("13 crossed", x.tangle(2, 3, 1, 0), 2);
        due("13 x alike", x.tangle(3, 2, 2, 0), 2);
        due("13 no wind", x.tangle(2, 3, 3, 0), NONE);
        // at drift 3 kite 0 is at 8, kite 1 at 7
        due("13 passed", x.tangle(0, 1, 1, 1), 1);
        FishingKites y = Checks.told("wind 1 0 0 1 5;wind 1 1 1 1 6;wind 2 0 0 1 4", kites, "law 1");
        due("13 law 1: greater clan", y.tangle(0, 1, 1, 0), 0);
        due("13 law 1: greater clan", y.tangle(1, 0, 1, 0), 0);
        due("13 law 1: clans alike", y.tangle(1, 2, 1, 0), 2);
        due("13 law 1: clan, not size", y.tangle(2, 3, 1, 0), 3);
        FishingKites z = Checks.told("wind 1 0 0 1 5;wind 1 1 1 1 6;wind 2 0 0 1 4", kites, "law 2");
        due("13 law 2: greater number", z.tangle(0, 1, 1, 0), 1);
        due("13 law 2: greater number", z.tangle(2, 1, 1, 0), 2);
        due("13 law 2: greater number", z.tangle(3, 2, 1, 0), 3);
        FishingKites w = Checks.told("wind 1 0 0 1 6;wind 2 0 0 1 0", "kite 0 9 2 9 1 0;kite 1 8 3 9 1 0;kite 2 0 4 1 1 0");
        due("13 both out of the sea, not crossed", w.tangle(0, 1, 1, 0), NONE);
        // at drift -3: 0, -1, -1
        due("13 x alike out of the sea", w.tangle(1, 2, 2, 0), 1);
        due("13 crossed out of the sea", w.tangle(0, 2, 2, 0), NONE);
        for (int bad : new int[] {LOW, -1, 4, 6, HIGH}) {
            due("13 kite", x.tangle(bad, 1, 1, 0), UNKNOWN);
            due("13 other", x.tangle(1, bad, 1, 0), UNKNOWN);
            due("13 both", x.tangle(bad, bad, 1, 0), UNKNOWN);
        }
        for (int bad : new int[] {LOW, -1, 0, 4, HIGH}) {
            due("13 height", x.tangle(0, 1, bad, 0), UNKNOWN);
        }
        for (int bad : new int[] {LOW, -1, 12, HIGH}) {
            due("13 hour", x.tangle(0, 1, 1, bad), UNKNOWN);
            due("13 hour ahead of itself", x.tangle(1, 1, 1, bad), UNKNOWN);
        }
        due("13 itself", x.tangle(2, 2, 1, 0), OUTSIDE);
    }

    /** Promise 9, of the hour: who is up. */
    private static void hourRises() {
        FishingKites x = Checks.told("wind 1 0 11 1 3;stock 12",
            "kite 0 0 5 5 1 0;kite 1 2 1 4 2 0;kite 2 3 5 6 1 0;kite 3 5 5 3 1 0;kite 4 7 5 4 1 0");
        for (int k = 0; k < 5; k++) {
            x.ask(k, 1);
        }
        x.go(1);
        due("9 up", x.kite(0, 0), 1);
        due("9 no lift, so no string", x.kite(1, 0), 0);
        due("9 string 11 of 12", x.kite(2, 0), 1);
        due("9 no string left", x.kite(3, 0), 0);
        due("9 no string left", x.kite(4, 0), 0);
        x.ask(2, 0);
        x.go(1);
        due("9 string 8 of 12", x.kite(3, 0), 1);
        due("9 string 12 of 12", x.kite(4, 0), 1);
        due("9 asked for none", x.kite(2, 0), 0);
        due("9 nobody gave way", x.kite(3, 4), 0);
        // one that gives way has had its string all the same
        FishingKites y = Checks.told("wind 1 0 11 9 3;stock 9", "kite 0 3 5 4 1 0;kite 1 3 4 5 1 0;kite 2 8 3 2 1 0");
        y.ask(0, 1);
        y.ask(1, 1);
        y.ask(2, 1);
        y.go(1);
        due("9 up", y.kite(0, 0), 1);
        due("9 gave way", y.kite(1, 4), 1);
        due("9 its string was not free", y.kite(2, 0), 0);
    }

    /** Promise 9, of the hour: fog. */
    private static void hourFog() {
        FishingKites x = Checks.told("wind 1 0 11 9 3;wind 2 0 11 9 3;fog 0 0;fog 3 4;fog 6 6", "kite 0 3 5 4 1 0;kite 1 3 4 4 1 0");
        x.ask(0, 1);
        x.go(1);
        due("9 fog in hour 0", x.kite(0, 0), 0);
        x.go(2);
        due("9 up without fog", x.kite(0, 3), 2);
        x.ask(0, 2);
        x.ask(1, 1);
        x.go(1);
        due("9 up in fog, at another height too", x.kite(0, 0), 1);
        due("9 not up ahead of fog", x.kite(1, 0), 0);
        x.go(1);
        due("9 up in fog still", x.kite(0, 3), 4);
        due("9 down in fog still", x.kite(1, 3), 0);
        x.ask(0, 1);
        x.go(1);
        due("9 gives way ahead of fog", x.kite(1, 4), 1);
        x.ask(0, 0);
        x.go(1);
        due("9 who gave way was not up", x.kite(1, 0), 0);
        x.go(1);
        due("9 no fog", x.kite(1, 0), 1);
    }

    /** Promise 9, of the hour: tangles in their order. */
    private static void hourTangles() {
        String three = "kite 0 3 2 4 1 1;kite 1 3 3 4 1 0;kite 2 3 1 4 1 2";
        int[][] up = {{0, 1, 0}, {0, 1, 0}, {1, 0, 0}};
        for (int law = 0; law < 3; law++) {
            FishingKites x = Checks.told("wind 1 0 11 9 3;law " + law, three);
            for (int k = 0; k < 3; k++) {
                x.ask(k, 1);
            }
            x.go(1);
            for (int k = 0; k < 3; k++) {
                due("9 law " + law + " kite " + k, x.kite(k, 0), up[law][k]);
                due("9 law " + law + " gave way " + k, x.kite(k, 4), 1 - up[law][k]);
            }
        }
        // 0 gives way to 1, so 2, which would have given way to 0 alone, stays
        FishingKites y = Checks.told("wind 1 0 11 9 6;stock 99", "kite 0 2 3 5 1 0;kite 1 2 4 4 1 0;kite 2 7 2 1 1 0;kite 3 6 2 2 1 0");
        for (int k = 0; k < 4; k++) {
            y.ask(k, 1);
        }
        y.go(1);
        due("9 gave way first", y.kite(0, 0), 0);
        due("9 stays", y.kite(1, 0), 1);
        due("9 out of the sea", y.kite(2, 4), 0);
        due("9 nobody crosses it", y.kite(3, 0), 1);
        // at other heights nobody is crossed
        FishingKites z = Checks.told("wind 1 0 11 9 3;wind 2 0 11 9 3;wind 3 0 11 9 3", three);
        for (int k = 0; k < 3; k++) {
            z.ask(k, k + 1);
        }
        z.go(12);
        for (int k = 0; k < 3; k++) {
            due("9 other heights", z.kite(k, 3), 12);
        }
    }

    /** Promise 9, of the hour: what is taken. */
    private static void hourTakes() {
        FishingKites x = Checks.told("wind 1 0 11 9 3;wind 2 0 11 9 3;gulls 3;stock 99",
            "kite 1 3 5 4 2 0;kite 2 3 5 5 3 0;shoal 0 3 3 1 1 4;shoal 1 3 3 1 1 9;shoal 2 3 3 2 1 50;shoal 3 0 1 1 1 9");
        x.ask(1, 1);
        x.ask(2, 2);
        x.go(1);
        // 1 takes 4 and 2, 2 takes 7 and 2
        due("9 takings", x.count(7), 4);
        due("9 shoal 0", x.shoal(0, 2), 0);
        due("9 shoal 1", x.shoal(1, 2), 0);
        due("9 shoal 2", x.shoal(2, 2), 48);
        due("9 catch", x.kite(1, 2), 4);
        due("9 catch", x.kite(2, 2), 6);
        due("9 gulls", x.count(9), 2 + 3);
        due("9 catch of all", x.count(8), 10);
        x.go(1);
        due("9 nothing there", x.count(7), 4);
        // gulls 1 take all, gulls 0 none
        for (int gulls = 0; gulls < 10; gulls++) {
            FishingKites y = Checks.told("wind 1 0 11 9 3;gulls " + gulls + ";kite 0 3 5 4 9 0;shoal 0 3 3 1 1 99");
            y.ask(0, 1);
            y.go(1);
            int lost = gulls == 0 ? 0 : 27 / gulls;
            due("9 gulls have", y.count(9), lost);
            due("9 catch", y.count(8), 27 - lost);
        }
        // one fish is a taking, too; it is too few for two gulls
        FishingKites one = Checks.told("wind 1 0 11 9 3;gulls 2;kite 0 3 5 4 9 0;shoal 2 3 3 1 1 1");
        one.ask(0, 1);
        one.go(3);
        due("9 one fish", one.count(7), 1);
        due("9 one fish", one.count(8), 1);
        due("9 one fish", one.taking(0, 3), 1);
        // a net of 0 is up and takes nothing
        FishingKites z = Checks.told("kite 0 3 5 4 0 0;shoal 0 3 3 1 1 99");
        z.ask(0, 1);
        z.go(12);
        due("9 no net: up", z.kite(0, 3), 12);
        due("9 no net: nothing noted", z.count(7), 0);
        // shoals that come by
        FishingKites w = Checks.told("wind 1 0 11 9 3;kite 0 3 5 4 9 0;shoal 0 0 6 2 0 99");
        w.ask(0, 1);
        w.go(3);
        due("9 not there yet", w.count(7), 0);
        w.go(9);
        due("9 there in hour 3", w.taking(0, 2), 3);
        due("9 only then", w.count(7), 1);
    }

    /** Promise 14. */
    private static void taking() {
        FishingKites x = Checks.told("wind 1 0 11 9 3;wind 2 0 11 9 3;stock 99",
            "kite 4 3 5 4 9 0;kite 5 3 5 5 9 0;shoal 1 3 3 1 1 30;shoal 3 3 3 1 1 40");
        x.ask(4, 1);
        x.ask(5, 2);
        due("14 nothing yet", x.taking(0, 0), NONE);
        x.go(12);
        int[][] takings = {{4, 1, 0, 27}, {5, 1, 0, 3}, {5, 3, 0, 24}, {4, 3, 1, 16}};
        due("14 how many", x.count(7), takings.length);
        for (int i = 0; i < takings.length; i++) {
            for (int what = 0; what < 4; what++) {
                due("14 taking " + i + " " + what, x.taking(i, what), takings[i][what]);
            }
        }
        due("14 behind the last", x.taking(4, 0), NONE);
        due("14 far behind", x.taking(HIGH, 3), NONE);
        due("14 what ahead of none", x.taking(HIGH, 4), OUTSIDE);
        for (int bad : new int[] {LOW, -1}) {
            due("14 i", x.taking(bad, 0), OUTSIDE);
        }
        for (int bad : new int[] {LOW, -1, 4, HIGH}) {
            due("14 what", x.taking(0, bad), OUTSIDE);
        }
        // in a late hour, of the greatest numbers
        FishingKites y = Checks.told("wind 1 11 11 9 3;kite 5 3 5 4 9 0;shoal 3 3 3 1 1 99");
        y.ask(5, 1);
        y.go(12);
        due("14 late", y.taking(0, 0), 5);
        due("14 late", y.taking(0, 1), 3);
        due("14 late", y.taking(0, 2), 11);
        due("14 late", y.taking(0, 3), 27);
    }

    /** Promises 15 and 16. */
    private static void keepAndBack() {
        FishingKites x = Checks.told("wind 1 0 11 9 3;kite 0 3 5 4 2 0;kite 1 3 4 4 2 0;shoal 0 3 3 1 1 99;gulls 3;fog 4 4");
        due("15 begin", x.keep(1), 0);
        x.ask(0, 1);
        x.ask(1, 1);
        x.go(2);
        due("15 now", x.keep(0), 2);
        Checks.writeText(x, "calm");
        x.ask(0, 0);
        x.go(5);
        due("15 hours", x.count(6), 7);
        due("16 back", x.back(0), 2);
        due("16 hours", x.count(6), 2);
        due("16 up", x.kite(0, 0), 1);
        due("16 asked", x.kite(0, 1), 1);
        due("16 catch", x.kite(0, 2), 8);
        due("16 hours up", x.kite(0, 3), 2);
        due("16 gave way", x.kite(1, 4), 2);
        due("16 shoal", x.shoal(0, 2), 87);
        due("16 takings", x.count(7), 2);
        due("16 taking", x.taking(1, 2), 1);
        due("16 no such taking", x.taking(2, 2), NONE);
        due("16 catch of all", x.count(8), 8);
        due("16 gulls have", x.count(9), 4);
        due("16 the text stays", x.count(10), 4);
        x.go(3);
        due("16 goes on, in fog too", x.kite(0, 3), 5);
        due("16 again", x.back(0), 2);
        due("16 begin", x.back(1), 0);
        due("16 begin", x.kite(0, 1), 0);
        due("16 begin", x.shoal(0, 2), 99);
        due("16 begin", x.count(7), 0);
        due("15 over it", x.keep(0), 0);
        due("16 over it", x.back(0), 0);
        x.ask(1, 1);
        x.go(3);
        x.keep(1);
        x.back(0);
        x.ask(0, 1);
        x.go(2);
        due("16 takings of another way", x.taking(0, 0), 0);
        due("16 that way", x.back(1), 3);
        due("16 takings of that way", x.taking(0, 0), 1);
        due("16 takings of that way", x.taking(2, 2), 2);
        due("16 begin", x.back(0), 0);
        x.keep(1);
        for (int bad : new int[] {LOW, -1, 2, HIGH}) {
            due("15 k", x.keep(bad), UNKNOWN);
            due("16 k", x.back(bad), UNKNOWN);
        }
        due("16 fault does not forget", x.erase(), 4);
        due("5 fault", x.cliff(), NOT);
        due("16 fault does not forget", x.back(1), 0);
        Checks.writeText(x, "law 0");
        x.cliff();
        due("16 nothing kept", x.back(0), NOT);
        due("16 nothing kept", x.back(1), NOT);
        due("15 kept in a day", x.keep(1), 0);
        due("16 only that", x.back(0), NOT);
        due("16 only that", x.back(1), 0);
    }

    private static void plan(String name, FishingKites x, boolean whole, int most, int... heights) {
        due(name + " most", whole ? x.allDay(NONE) : x.best(NONE), most);
        for (int k = 0; k < heights.length; k++) {
            due(name + " kite " + k, whole ? x.allDay(k) : x.best(k), heights[k]);
        }
    }

    /** Promise 17. */
    private static void best() {
        FishingKites x = Checks.told("wind 1 0 11 9 3;wind 2 0 11 9 3;wind 3 0 5 9 3;stock 99",
            "kite 0 3 5 5 3 0;kite 1 3 4 4 3 0;shoal 0 3 3 1 1 30;shoal 1 3 2 1 1 5");
        // at cell 3,3: kite 0 at 2, kite 1 at 1; at cell 3,2: kite 0 at 3, kite 1 at 2
        plan("17", x, false, 18, 2, 1);
        due("17 nothing changes", x.count(6), 0);
        due("17 nothing changes", x.kite(0, 1), 0);
        due("17 nothing changes", x.shoal(0, 2), 30);
        x.ask(0, 2);
        x.ask(1, 1);
        x.go(1);
        x.keep(0);
        // 12 and 5 are left: 5 by kite 0 and 9 by kite 1; both at 2 would cross
        plan("17 hour 1", x, false, 14, 3, 1);
        x.go(1);
        plan("17 hour 2", x, false, 5, 0, 2);
        due("17 back", x.back(0), 1);
        plan("17 hour 1 again", x, false, 14, 3, 1);
        due("17 not told", x.best(2), UNKNOWN);
        for (int bad : new int[] {LOW, -2, 6, HIGH}) {
            due("17 kite", x.best(bad), UNKNOWN);
        }
        x.go(12);
        due("17 no hours left", x.best(NONE), NOT);
        due("17 no hours left", x.best(0), NOT);
        due("17 unknown ahead of not", x.best(2), UNKNOWN);
        // fog: only who was up
        FishingKites y = Checks.told("wind 1 0 11 9 3;fog 1 1;stock 99",
            "kite 0 3 5 4 3 0;kite 1 6 4 4 3 0;shoal 0 3 3 1 1 99;shoal 1 6 3 1 1 99");
        plan("17 no fog", y, false, 18, 1, 1);
        y.ask(1, 1);
        y.go(1);
        plan("17 fog", y, false, 9, 0, 1);
        y.go(1);
        plan("17 fog is over", y, false, 18, 1, 1);
        Checks.writeText(y, "gulls 1");
        y.cliff();
        plan("17 gulls have all", y, false, 0, 0, 0);
    }

    /** Promise 18. */
    private static void allDay() {
        FishingKites x = Checks.told("wind 1 0 11 9 3;wind 2 0 11 9 3;wind 3 0 5 9 3;stock 99",
            "kite 0 3 5 5 3 0;kite 1 3 4 4 3 0;shoal 0 3 3 1 1 30;shoal 1 3 2 1 1 5");
        // one of them takes all 30, the other the 5: kite 0 at 2 and kite 1 at 2 would cross, and 1 gives way
        plan("18", x, true, 35, 3, 1);
        x.go(12);
        plan("18 from the begin", x, true, 35, 3, 1);
        due("18 not told", x.allDay(2), UNKNOWN);
        for (int bad : new int[] {LOW, -2, 6, HIGH}) {
            due("18 kite", x.allDay(bad), UNKNOWN);
        }
        Checks.writeText(x, "stock 8");
        x.cliff();
        // kite 0 is up while there is wind at 3, kite 1 behind that
        plan("18 string for one at a time", x, true, 35, 3, 1);
        Checks.writeText(x, "stock 4");
        x.cliff();
        plan("18 string for one", x, true, 30, 0, 1);
        Checks.writeText(x, "stock 9");
        x.cliff();
        plan("18 string for both", x, true, 35, 3, 1);
        Checks.writeText(x, "lost 1");
        x.cliff();
        plan("18 one is lost", x, true, 30, 2);
        due("18 one is lost", x.allDay(1), UNKNOWN);
        due("18 nobody", new FishingKites().allDay(NONE), 0);
    }

    /** Promise 19. */
    private static void laws() {
        FishingKites x = Checks.told("wind 1 0 11 9 3;law 2", "kite 0 3 2 4 1 2;kite 1 3 1 4 2 1;kite 2 3 3 4 3 2;shoal 0 3 3 1 1 99");
        due("19 nobody asked", x.laws(0), 0);
        due("19 nobody asked", x.laws(1), 0);
        x.ask(0, 1);
        x.ask(1, 1);
        // law 0: kite 0, a net of 1; law 1: kite 1, 2; law 2: kite 0
        due("19 by clan", x.laws(0), 1);
        due("19 by clan", x.laws(1), 72);
        x.ask(2, 1);
        // law 0: kite 2, 9 each hour, law 1: kite 1, law 2: kite 0
        due("19 by size", x.laws(0), 0);
        due("19 by size", x.laws(1), 99);
        x.ask(1, 0);
        x.ask(2, 0);
        due("19 alike: the least", x.laws(0), 0);
        due("19 alike: the least", x.laws(1), 36);
        x.go(12);
        due("19 a whole day", x.laws(1), 36);
        due("19 the law stays", x.count(2), 2);
        for (int bad : new int[] {LOW, -1, 2, HIGH}) {
            due("19 what", x.laws(bad), OUTSIDE);
        }
        FishingKites y = Checks.told("wind 1 0 11 9 3", "kite 0 3 2 4 1 0;kite 1 3 3 4 1 0;kite 2 3 1 4 5 2;shoal 0 3 3 1 1 99");
        y.ask(0, 1);
        y.ask(2, 1);
        due("19 alike of three", y.laws(0), 0);
    }

    private static void odds(String name, long above, long below, long wantAbove, long wantBelow) {
        due(name + " above", above, wantAbove);
        due(name + " below", below, wantBelow);
    }

    private static void food(int f, int e, int c, int p, int n, long above, long below) {
        FishingKites x = new FishingKites();
        odds("20 food " + f + " " + e + " " + c + " " + p + " " + n, x.food(f, e, c, p, n, 0), x.food(f, e, c, p, n, 1), above, below);
    }

    /** Promise 20. */
    private static void food() {
        food(0, 1, 0, 5, 0, 1, 1);
        food(0, 99, 99, 0, 8, 1, 1);
        food(0, 99, 98, 0, 1, 0, 1);
        food(0, 1, 99, 10, 1, 0, 1);
        food(1, 1, 99, 10, 1, 1, 1);
        food(1, 1, 99, 10, 2, 0, 1);
        food(0, 3, 3, 4, 2, 9, 25);
        // the first day must bring fish, one of the next two may be calm: 0.7 * (1 - 0.09)
        food(0, 2, 4, 3, 3, 637, 1000);
        food(999, 99, 0, 5, 8, 1, 1);
        food(8, 1, 0, 10, 8, 1, 1);
        food(7, 1, 0, 10, 8, 0, 1);
        food(7, 1, 1, 10, 8, 0, 1);
        food(7, 1, 1, 9, 8, 100000000 - 43046721, 100000000);
        food(0, 1, 1, 9, 8, 1, 100000000);
        FishingKites x = new FishingKites();
        for (int bad : new int[] {LOW, -1, 1000, HIGH}) {
            due("20 f", x.food(bad, 1, 0, 0, 0, 0), OUTSIDE);
        }
        for (int bad : new int[] {LOW, -1, 0, 100, HIGH}) {
            due("20 e", x.food(0, bad, 0, 0, 0, 0), OUTSIDE);
        }
        for (int bad : new int[] {LOW, -1, 100, HIGH}) {
            due("20 c", x.food(0, 1, bad, 0, 0, 0), OUTSIDE);
        }
        for (int bad : new int[] {LOW, -1, 11, HIGH}) {
            due("20 p", x.food(0, 1, 0, bad, 0, 0), OUTSIDE);
        }
        for (int bad : new int[] {LOW, -1, 9, HIGH}) {
            due("20 n", x.food(0, 1, 0, 0, bad, 0), OUTSIDE);
        }
        for (int bad : new int[] {LOW, -1, 2, HIGH}) {
            due("20 part", x.food(0, 1, 0, 0, 0, bad), OUTSIDE);
        }
    }

    /** Promise 21. */
    private static void cut() {
        FishingKites x = Checks.told("wind 1 0 11 0 6;wind 2 0 11 0 0;wind 3 10 10 0 5;wind 3 11 11 0 2", "kite 0 9 1 9 9 0;kite 1 0 1 9 9 0;kite 2 4 1 1 0 0");
        due("21 asked for 0", x.cut(0, 0, 0, 0, 0), NOT);
        x.ask(0, 1);
        x.ask(1, 2);
        x.ask(2, 3);
        // from 18, 36 more at most; from -9, 36 less
        odds("21 far", x.cut(0, 0, 40, 10, 0), x.cut(0, 0, 40, 10, 1), 1, 1);
        odds("21 never", x.cut(0, 11, 22, 5, 0), x.cut(0, 11, 22, 5, 1), 0, 1);
        odds("21 last hour", x.cut(0, 11, 21, 3, 0), x.cut(0, 11, 21, 3, 1), 3, 10);
        odds("21 both of two", x.cut(0, 10, 24, 3, 0), x.cut(0, 10, 24, 3, 1), 9, 100);
        odds("21 one of two", x.cut(0, 10, 19, 3, 0), x.cut(0, 10, 19, 3, 1), 51, 100);
        odds("21 away", x.cut(1, 0, 0, 0, 0), x.cut(1, 0, 0, 0, 1), 0, 1);
        odds("21 away", x.cut(1, 0, 0, 10, 0), x.cut(1, 0, 0, 10, 1), 0, 1);
        // all 8 of 12 or more: sum of C(12, i) from 8 to 12 = 495 + 220 + 66 + 12 + 1 = 794
        odds("21 half", x.cut(0, 0, 40, 5, 0), x.cut(0, 0, 40, 5, 1), 397, 2048);
        // kite 2 at height 3, from 4: 4 by hour 9, no drift then; 2 in hour 10, -1 in hour 11
        odds("21 there or back", x.cut(2, 9, 5, 5, 0), x.cut(2, 9, 5, 5, 1), 1, 2);
        odds("21 there, not back", x.cut(2, 9, 6, 4, 0), x.cut(2, 9, 6, 4, 1), 6, 25);
        odds("21 not back", x.cut(2, 9, 4, 4, 0), x.cut(2, 9, 4, 4, 1), 19, 25);
        odds("21 begin", x.cut(2, 11, 4, 10, 0), x.cut(2, 11, 4, 10, 1), 0, 1);
        odds("21 begin", x.cut(2, 11, 3, 10, 0), x.cut(2, 11, 3, 10, 1), 1, 1);
        for (int bad : new int[] {LOW, -1, 3, 6, HIGH}) {
            due("21 kite", x.cut(bad, 0, 0, 0, 0), UNKNOWN);
            due("21 kite ahead of m", x.cut(bad, 0, 41, 0, 0), UNKNOWN);
        }
        for (int bad : new int[] {LOW, -1, 12, HIGH}) {
            due("21 hour", x.cut(0, bad, 0, 0, 0), UNKNOWN);
            due("21 hour ahead of p", x.cut(0, bad, 0, 11, 0), UNKNOWN);
        }
        x.ask(0, 0);
        for (int bad : new int[] {LOW, -1, 41, HIGH}) {
            due("21 m ahead of not", x.cut(0, 0, bad, 0, 0), OUTSIDE);
        }
        for (int bad : new int[] {LOW, -1, 11, HIGH}) {
            due("21 p ahead of not", x.cut(0, 0, 0, bad, 0), OUTSIDE);
        }
        for (int bad : new int[] {LOW, -1, 2, HIGH}) {
            due("21 part ahead of not", x.cut(0, 0, 0, 0, bad), OUTSIDE);
        }
        due("21 not", x.cut(0, 0, 0, 0, 1), NOT);
    }

    /** Promise 22. */
    private static void share() {
        FishingKites x = Checks.told("kite 0 1 1 1 1 1;kite 1 1 1 2 1 1;kite 3 1 1 3 1 1;kite 5 1 1 1 1 1");
        // by 1, 2, 3, 1 of 7; of 10: 1 3/7, 2 6/7, 4 2/7, 1 3/7
        int[] ten = {2, 3, 4, 1};
        int[] kites = {0, 1, 3, 5};
        for (int i = 0; i < kites.length; i++) {
            due("22 of 10", x.share(10, kites[i]), ten[i]);
            due("22 of 0", x.share(0, kites[i]), 0);
        }
        // of 1: the greatest rest is that of the longest
        due("22 of 1", x.share(1, 3), 1);
        due("22 of 1", x.share(1, 0), 0);
        // of 999: 142 5/7, 285 3/7, 428 1/7, 142 5/7
        due("22 of 999", x.share(999, 0), 143);
        due("22 of 999", x.share(999, 1), 285);
        due("22 of 999", x.share(999, 3), 428);
        due("22 of 999", x.share(999, 5), 143);
        due("22 one has all", Checks.told("kite 4 0 1 9 0 0").share(999, 4), 999);
        for (int bad : new int[] {LOW, -1, 2, 4, 6, HIGH}) {
            due("22 kite", x.share(10, bad), UNKNOWN);
            due("22 kite ahead of n", x.share(1000, bad), UNKNOWN);
        }
        for (int bad : new int[] {LOW, -1, 1000, HIGH}) {
            due("22 n", x.share(bad, 0), OUTSIDE);
        }
    }

    /** Promise 23. */
    private static void count() {
        FishingKites x = Checks.told("wind 1 0 11 9 3;kite 0 3 5 4 3 0;kite 5 3 5 4 3 0;shoal 1 3 3 1 1 99;shoal 3 3 3 1 1 9",
            "law 2;stock 45;fog 11 11;fog 1 2;gulls 4");
        x.ask(5, 1);
        x.go(4);
        Checks.writeText(x, "what");
        // up in hours 0 to 3, 9 fish each hour, 2 of them for gulls
        int[] want = {33, 10, 2, 45, 0b100000000110, 4, 4, 4, 28, 8, 4};
        for (int what = 0; what < want.length; what++) {
            due("23 count(" + what + ")", x.count(what), want[what]);
        }
        for (int bad : new int[] {LOW, -1, 11, HIGH}) {
            due("23 what", x.count(bad), OUTSIDE);
        }
    }
}
