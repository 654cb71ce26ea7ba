/** Promises 1 to 5: each sentence that names a boundary of a text, by itself. */
final class TextEdgeTests {
    private static final int NONE = -1, UNKNOWN = -2, OUTSIDE = -3, NOT = -4, FULL = -5;
    private static final int LOW = Integer.MIN_VALUE, HIGH = Integer.MAX_VALUE;
    private static final Sentences DOC = new Sentences();

    private static final String[] WORDS = {"wind", "kite", "shoal", "law", "stock", "fog", "gulls", "calm", "lost"};
    private static final int[][] LEAST = {{1, 0, 0, 0, 0}, {0, 0, 1, 1, 0, 0}, {0, 0, 1, 0, 0, 0}, {0}, {0}, {0, 0}, {0}, {}, {0}};
    private static final int[][] MOST = {{3, 11, 11, 9, 6}, {5, 9, 5, 9, 9, 2}, {3, 9, 6, 2, 2, 99}, {2}, {99}, {11, 11}, {9}, {}, {5}};

    private static void due(String call, long got, long want) {
        DOC.due(call, got, want);
    }

    private static void fault(String text, int want) {
        due("fault of '" + text + "'", Checks.faultOf(new FishingKites(), text), want);
    }

    public static void main(String[] args) {
        newObject();
        firstNumbers();
        writeBounds();
        writeBytes();
        writeFull();
        erase();
        numberBounds();
        numberDigits();
        hoursInOrder();
        endTooSoon();
        tooMuch();
        words();
        strangeBytes();
        blanks();
        lineBounds();
        firstFault();
        fullText();
        faultChangesNothing();
        cliffLines();
        cliffRefused();
        windLine();
        kiteLine();
        shoalLine();
        numberLines();
        fogLine();
        calmLine();
        lostLine();
        linesInOrder();
        earlierTextsStay();
        dayBegins();
        DOC.end(1, 5);
    }

    private static void newObject() {
        FishingKites x = new FishingKites();
        DOC.says(1, "No KITES");
        due("count(0)", x.count(0), 0);
        for (int k = 0; k <= 5; k++) {
            due("kite(" + k + ", 0)", x.kite(k, 0), UNKNOWN);
            due("ask(" + k + ", 1)", x.ask(k, 1), UNKNOWN);
        }
        DOC.says(1, "no WIND");
        for (int height = 1; height <= 3; height++) {
            for (int hour = 0; hour <= 11; hour++) {
                due("wind(" + height + ", " + hour + ", 0)", x.wind(height, hour, 0), 0);
                due("wind(" + height + ", " + hour + ", 1)", x.wind(height, hour, 1), 3);
            }
        }
        DOC.says(1, "no SHOALS");
        due("count(1)", x.count(1), 0);
        for (int s = 0; s <= 3; s++) {
            due("shoal(" + s + ", 0)", x.shoal(s, 0), UNKNOWN);
        }
        DOC.says(1, "no KITES: nothing is foretold of them");
        due("best(NONE)", x.best(NONE), 0);
        due("best(0)", x.best(0), UNKNOWN);
        due("allDay(NONE)", x.allDay(NONE), 0);
        due("allDay(0)", x.allDay(0), UNKNOWN);
        due("laws(0)", x.laws(0), 0);
        due("laws(1)", x.laws(1), 0);
        due("go(12)", x.go(12), 12);
        due("taking(0, 0)", x.taking(0, 0), NONE);
    }

    private static void firstNumbers() {
        FishingKites x = new FishingKites();
        DOC.says(1, "LAW is 0 .. 2 (0 at first)");
        due("count(2)", x.count(2), 0);
        DOC.says(1, "STOCK of string 0 .. 99 (30)");
        due("count(3)", x.count(3), 30);
        DOC.says(1, "FOG a set of HOURS (none)");
        due("count(4)", x.count(4), 0);
        DOC.says(1, "GULLS 0 .. 9 (0)");
        due("count(5)", x.count(5), 0);
        DOC.says(1, "a new object: no HOURS, no TAKINGS, no bytes");
        for (int what = 6; what <= 10; what++) {
            due("count(" + what + ")", x.count(what), 0);
        }
        DOC.says(1, "STOCK (30): as at first, in an hour");
        FishingKites y = Checks.told("kite 0 0 1 9 0 0;kite 1 2 1 9 0 0;kite 2 4 1 9 0 0;kite 3 6 1 4 0 0;kite 4 8 1 3 0 0");
        for (int k = 0; k < 5; k++) {
            y.ask(k, k < 3 ? 3 : 1);
        }
        y.go(1);
        due("27 of 30", y.kite(2, 0), 1);
        due("31 of 30", y.kite(3, 0), 0);
        due("30 of 30", y.kite(4, 0), 1);
    }

    private static void writeBounds() {
        DOC.says(2, "n (1 .. 8) bytes more of THE TEXT");
        for (int n = 1; n <= 8; n++) {
            due("write(0, " + n + ")", new FishingKites().write(0, n), n);
        }
        FishingKites x = new FishingKites();
        for (int bad : new int[] {LOW, -8, -1, 0, 9, 16, HIGH}) {
            due("write(0, " + bad + ")", x.write(0, bad), OUTSIDE);
        }
        due("nothing was written", x.count(10), 0);
        DOC.says(2, "how many it has");
        due("first", x.write(0, 3), 3);
        due("then", x.write(0, 8), 11);
        due("then", x.write(0, 1), 12);
        due("count(10)", x.count(10), 12);
    }

    private static void writeBytes() {
        DOC.says(2, "byte i being bytes >> 8 i & 255");
        for (int i = 0; i < 8; i++) {
            // blanks, and one byte that can stand nowhere
            for (long b : new long[] {0, 1, 127, 128, 255}) {
                FishingKites x = new FishingKites();
                x.write(0x2020202020202020L & ~(255L << 8 * i) | b << 8 * i, 8);
                due("byte " + i + " is " + b, x.fault(), i);
            }
        }
        FishingKites y = new FishingKites();
        y.write(0x6d6c6163L, 4);
        due("'calm', the first byte lowest", y.fault(), NONE);
        FishingKites z = new FishingKites();
        z.write(0x63616c6dL, 4);
        due("'mlac'", z.fault(), 0);
        DOC.says(2, "n bytes more: those above are not written");
        FishingKites w = new FishingKites();
        due("four of eight", w.write(0xffffffff_6d6c6163L, 4), 4);
        due("fault", w.fault(), NONE);
        due("one of eight", w.write(0xffffffff_ffffff20L, 1), 5);
        due("fault", w.fault(), NONE);
    }

    private static FishingKites blanks(int n) {
        FishingKites x = new FishingKites();
        Checks.writeText(x, " ".repeat(n));
        return x;
    }

    private static void writeFull() {
        DOC.says(2, "a row of bytes, 200 at most");
        for (int n = 1; n <= 8; n++) {
            due("up to 200 by " + n, blanks(200 - n).write(0, n), 200);
            due("up to 199 by " + n, blanks(199 - n).write(0, n), 199);
            FishingKites x = blanks(201 - n);
            due("up to 201 by " + n, x.write(0, n), FULL);
            due("none of them was written", x.count(10), 201 - n);
            due("none of them was written", x.fault(), 201 - n);
        }
        FishingKites full = blanks(200);
        due("a full text", full.count(10), 200);
        due("one more", full.write(32, 1), FULL);
        due("eight more", full.write(32, 8), FULL);
        DOC.says(2, "OUTSIDE; FULL: the first of these that fits");
        for (int bad : new int[] {LOW, 0, 9, HIGH}) {
            due("both", full.write(32, bad), OUTSIDE);
        }
        DOC.says(2, "FULL: nothing changes");
        due("bytes", full.count(10), 200);
        due("fault", full.fault(), 200);
        DOC.says(2, "200 at most: room again behind erase and cliff");
        due("erase", full.erase(), 200);
        due("write", full.write(32, 8), 8);
        FishingKites done = new FishingKites();
        Checks.writeText(done, "calm" + " ".repeat(196));
        due("full", done.write(32, 1), FULL);
        due("cliff", done.cliff(), 1);
        due("write", done.write(32, 1), 1);
    }

    private static void erase() {
        DOC.says(3, "how many bytes it had");
        FishingKites x = new FishingKites();
        due("none", x.erase(), 0);
        x.write(32, 1);
        due("one", x.erase(), 1);
        due("none again", x.erase(), 0);
        due("two hundred", blanks(200).erase(), 200);
        DOC.says(3, "THE TEXT is empty");
        Checks.writeText(x, "law 2222");
        x.erase();
        due("count(10)", x.count(10), 0);
        due("fault", x.fault(), 0);
        due("cliff", x.cliff(), NOT);
        Checks.writeText(x, "law 2");
        due("nothing of the earlier text stands", x.fault(), NONE);
        DOC.says(3, "THE TEXT is empty: and nothing but it");
        FishingKites y = Checks.told("law 2;stock 7;kite 0 1 1 1 1 1;shoal 1 1 1 1 1 1");
        y.ask(0, 2);
        y.go(2);
        y.keep(0);
        Checks.writeText(y, "law 1;calm");
        due("erase", y.erase(), 10);
        due("law", y.count(2), 2);
        due("stock", y.count(3), 7);
        due("kites", y.count(0), 1);
        due("shoals", y.count(1), 2);
        due("hours", y.count(6), 2);
        due("asked", y.kite(0, 1), 2);
        due("kept", y.back(0), 2);
    }

    /** A line in which the j-th number is told by other digits. */
    private static String line(int word, int[] numbers, int j, String digits) {
        StringBuilder line = new StringBuilder(WORDS[word]);
        for (int i = 0; i < numbers.length; i++) {
            line.append(' ').append(i == j ? digits : String.valueOf(numbers[i]));
        }
        return line.toString();
    }

    /** Where the j-th number of such a line begins. */
    private static int placeOf(int word, int[] numbers, int j) {
        int place = WORDS[word].length() + 1;
        for (int i = 0; i < j; i++) {
            place += String.valueOf(numbers[i]).length() + 1;
        }
        return place;
    }

    private static void numberBounds() {
        for (int w = 0; w < WORDS.length; w++) {
            DOC.says(4, "each is one of: " + WORDS[w] + ", and a number out of its bounds");
            fault(line(w, LEAST[w], NONE, ""), NONE);
            fault(line(w, MOST[w], NONE, ""), NONE);
            for (int j = 0; j < LEAST[w].length; j++) {
                fault(line(w, MOST[w], j, String.valueOf(MOST[w][j] + 1)), placeOf(w, MOST[w], j));
                fault(line(w, LEAST[w], j, "99"), MOST[w][j] == 99 ? NONE : placeOf(w, LEAST[w], j));
                fault(line(w, LEAST[w], j, "-1"), placeOf(w, LEAST[w], j));
                if (LEAST[w][j] > 0) {
                    fault(line(w, LEAST[w], j, String.valueOf(LEAST[w][j] - 1)), placeOf(w, LEAST[w], j));
                }
            }
        }
    }

    private static void numberDigits() {
        for (int w = 0; w < WORDS.length; w++) {
            DOC.says(4, "numbers of 1 or 2 digits (of more digits, also): " + WORDS[w]);
            fault(line(w, LEAST[w], NONE, ""), NONE);
            for (int j = 0; j < LEAST[w].length; j++) {
                fault(line(w, LEAST[w], j, "0" + LEAST[w][j]), NONE);
                fault(line(w, LEAST[w], j, "00" + LEAST[w][j]), placeOf(w, LEAST[w], j));
                fault(line(w, LEAST[w], j, LEAST[w][j] + "00"), placeOf(w, LEAST[w], j));
                fault(line(w, LEAST[w], j, "0".repeat(60) + LEAST[w][j]), placeOf(w, LEAST[w], j));
            }
        }
        DOC.says(4, "a number of more digits: also where it would wrap around");
        fault("law 4294967297", 4);
        fault("law 18446744073709551617", 4);
        fault("stock 256", 6);
    }

    private static void hoursInOrder() {
        DOC.says(4, "wind: at H in HOURS A to B (B not below A)");
        for (int a = 0; a <= 11; a++) {
            int place = a < 10 ? 9 : 10;
            fault("wind 1 " + a + " " + a + " 0 0", NONE);
            fault("wind 1 " + a + " 11 0 0", NONE);
            fault("wind 1 " + a + " 12 0 0", place);
            if (a > 0) {
                fault("wind 1 " + a + " " + (a - 1) + " 0 0", place);
                fault("wind 1 " + a + " 0 0 0", place);
            }
        }
        DOC.says(4, "fog: HOURS A to B");
        for (int a = 0; a <= 11; a++) {
            int place = a < 10 ? 6 : 7;
            fault("fog " + a + " " + a, NONE);
            fault("fog " + a + " 11", NONE);
            fault("fog " + a + " 12", place);
            if (a > 0) {
                fault("fog " + a + " " + (a - 1), place);
                fault("fog " + a + " 0", place);
            }
        }
    }

    private static void endTooSoon() {
        DOC.says(4, "or at the end, if it comes too soon (the length)");
        fault("", 0);
        fault(" ", 1);
        fault("   ", 3);
        for (int w = 0; w < WORDS.length; w++) {
            for (int j = 0; j < LEAST[w].length; j++) {
                String cut = line(w, LEAST[w], NONE, "").substring(0, placeOf(w, LEAST[w], j) - 1);
                fault(cut, cut.length());
                fault(cut + " ", cut.length() + 1);
                fault("calm;" + cut + "   ", cut.length() + 8);
            }
        }
        DOC.says(4, "LINES with ; between: the end behind a ;");
        fault("calm;", 5);
        fault("calm ; ", 7);
        fault("calm;calm;", 10);
        DOC.says(4, "a ; where a number is due");
        fault("law;law 1", 3);
        fault("law ;", 4);
        fault("kite 0 0 1 1 0;calm", 14);
    }

    private static void tooMuch() {
        DOC.says(4, "the first TOKEN that cannot stand there: behind a LINE");
        for (int w = 0; w < WORDS.length; w++) {
            String whole = line(w, LEAST[w], NONE, "");
            fault(whole + " 0", whole.length() + 1);
            fault(whole + " calm", whole.length() + 1);
            fault(whole + " .", whole.length() + 1);
            fault(whole + ".", whole.length());
        }
        DOC.says(4, "the first TOKEN that cannot stand there: a number, of which letters are due");
        fault("0", 0);
        fault("12 calm", 0);
        fault("calm;7", 5);
        DOC.says(4, "the first TOKEN that cannot stand there: letters, of which a number is due");
        fault("law law", 4);
        fault("law one", 4);
        fault("wind 1 0 x 0 0", 9);
    }

    private static void words() {
        DOC.says(4, "TOKEN (a row of small letters): the whole row");
        for (int w = 0; w < WORDS.length; w++) {
            String whole = line(w, LEAST[w], NONE, "");
            String word = WORDS[w];
            String behind = whole.substring(word.length());
            fault(word.substring(1) + behind, 0);
            fault(word.substring(0, word.length() - 1) + behind, 0);
            fault(word + "s" + behind, 0);
            fault("a" + word + behind, 0);
            fault(word + word + behind, 0);
            fault(word.substring(0, 1) + " " + word.substring(1) + behind, 0);
            for (int i = 0; i < word.length(); i++) {
                fault(word.substring(0, i) + "x" + word.substring(i + 1) + behind, 0);
            }
        }
        DOC.says(4, "small letters a .. z");
        for (int w = 0; w < WORDS.length; w++) {
            String whole = line(w, LEAST[w], NONE, "");
            fault(whole.toUpperCase(), 0);
            fault(whole.substring(0, 1).toUpperCase() + whole.substring(1), 0);
        }
        // letters end at a strange byte, so the word ahead of it is none
        fault("cal{", 0);
        fault("calm{", 4);
        fault("calm`", 4);
    }

    private static void strangeBytes() {
        DOC.says(4, "any other byte: at the begin of a LINE");
        for (int b = 0; b < 256; b++) {
            fault((char) b + "calm", b == ' ' ? NONE : 0);
        }
        DOC.says(4, "any other byte: where a number is due");
        for (int b = 0; b < 256; b++) {
            boolean isDigit = b >= '0' && b <= '9';
            // a digit ahead of the 1 makes one number of two digits
            fault("law " + (char) b + "1", b == ' ' || b == '0' ? NONE : 4);
            fault("stock " + (char) b + " 1", b == ' ' ? NONE : isDigit ? 8 : 6);
        }
        DOC.says(4, "any other byte: behind a LINE");
        for (int b = 0; b < 256; b++) {
            boolean isLetter = b >= 'a' && b <= 'z';
            fault("calm" + (char) b, b == ' ' ? NONE : b == ';' ? 5 : isLetter ? 0 : 4);
            fault("calm " + (char) b, b == ' ' ? NONE : b == ';' ? 6 : 5);
        }
    }

    private static void blanks() {
        DOC.says(4, "blanks (32) may stand ahead of, between, behind TOKENS");
        fault(" calm", NONE);
        fault("     calm", NONE);
        fault("calm ", NONE);
        fault("calm     ", NONE);
        fault("  wind  1  0  11  9  6  ;  kite  0  0  1  1  0  0  ", NONE);
        DOC.says(4, "and need not where a TOKEN ends without");
        fault("wind1 0 11 9 6;kite0 0 1 1 0 0;shoal0 0 1 0 0 0;law0;stock0;fog0 0;gulls0;calm;lost0", NONE);
        fault("law1law2", 4);
        fault("calmlaw1", 0);
        DOC.says(4, "a row of digits is one TOKEN: blanks must part numbers");
        fault("fog01", 5);
        fault("fog 1 1", NONE);
        fault("fog 11", 6);
        fault("stock 9 9", 8);
        DOC.says(4, "blanks (32): no other byte");
        fault("\tcalm", 0);
        fault("calm\t", 4);
        fault("law\n1", 3);
        fault("law" + (char) 160 + "1", 3);
    }

    private static String calms(int n) {
        return "calm" + ";calm".repeat(n - 1);
    }

    private static void lineBounds() {
        DOC.says(4, "LINES with ; (59) between, 1 to 10");
        for (int n = 1; n <= 10; n++) {
            fault(calms(n), NONE);
        }
        fault(calms(11), 49);
        fault("", 0);
        DOC.says(4, "(behind the 10th no ; can stand)");
        fault(calms(10) + ";", 49);
        fault(calms(10) + " ;", 50);
        fault(calms(10) + "  ; calm", 51);
        fault(calms(10) + ";;", 49);
        fault(calms(10) + " ", NONE);
        fault(calms(9) + ";", 45);
        DOC.says(4, "LINES with ; between: no LINE is empty");
        fault(";", 0);
        fault(";calm", 0);
        fault(" ;calm", 1);
        fault("calm;;calm", 5);
        fault("calm; ;calm", 6);
    }

    private static void firstFault() {
        DOC.says(4, "A FAULT is at the first TOKEN that cannot stand there");
        fault("law 3;law 4", 4);
        fault("law 1;law 4;what", 10);
        fault("kite 9 10 0 0 10 3", 5);
        fault("kite 5 10 0 0 10 3", 7);
        fault("kite 5 9 0 0 10 3", 9);
        fault("kite 5 9 5 0 10 3", 11);
        fault("kite 5 9 5 9 10 3", 13);
        fault("kite 5 9 5 9 9 3", 15);
        fault("wind 1 9 3", 9);
        fault("calms;" + calms(10) + ";", 0);
        fault(calms(9) + ";law 9;", 49);
    }

    private static void fullText() {
        DOC.says(4, "a text of 200 bytes");
        fault("calm" + " ".repeat(196), NONE);
        fault(" ".repeat(196) + "calm", NONE);
        fault(" ".repeat(195) + "law 2", NONE);
        fault(" ".repeat(195) + "law 3", 199);
        fault(" ".repeat(196) + "law ", 200);
        fault(" ".repeat(200), 200);
        fault(" ".repeat(199) + ";", 199);
        fault(" ".repeat(195) + "calm;", 200);
        fault("a".repeat(200), 0);
        fault("law " + "1".repeat(196), 4);
        String nine = "kite 5 9 5 9 9 2;".repeat(9);
        fault(nine + " ".repeat(200 - 16 - nine.length()) + "kite 5 9 5 9 9 2", NONE);
        fault(nine + " ".repeat(200 - 17 - nine.length()) + "kite 5 9 5 9 9 2;", 199);
    }

    private static void faultChangesNothing() {
        DOC.says(4, "the place of the FAULT: to ask changes nothing");
        FishingKites x = new FishingKites();
        Checks.writeText(x, "law 2;law 3");
        due("fault", x.fault(), 10);
        due("fault again", x.fault(), 10);
        due("bytes", x.count(10), 11);
        due("law", x.count(2), 0);
        x.erase();
        Checks.writeText(x, "law 2;law 1");
        due("none", x.fault(), NONE);
        due("law", x.count(2), 0);
        due("bytes", x.count(10), 11);
        due("more may be written", x.write('9', 1), 12);
        due("and then it has one", x.fault(), 10);
    }

    private static void cliffLines() {
        DOC.says(5, "THE TEXT's LINES are done, and it is empty then: how many there were");
        for (int n = 1; n <= 10; n++) {
            FishingKites x = new FishingKites();
            Checks.writeText(x, calms(n));
            due(n + " lines", x.cliff(), n);
            due("empty", x.count(10), 0);
            due("again", x.cliff(), NOT);
        }
        FishingKites y = new FishingKites();
        Checks.writeText(y, "law 1;law 2;stock 3;gulls 4;fog 5 5;calm;gulls 9;fog 6 6;stock 8;law 0");
        due("ten", y.cliff(), 10);
        due("the tenth is done", y.count(2), 0);
        due("the ninth is done", y.count(3), 8);
        due("the eighth is done", y.count(4), 1 << 6);
        due("the seventh is done", y.count(5), 9);
    }

    private static void cliffRefused() {
        DOC.says(5, "NOT: it has a FAULT");
        for (String text : new String[] {"", " ", "law", "law 3", "law 2;", "law 2;x", "law 2;stock 5;fog 3 2", "law 2." }) {
            FishingKites x = Checks.told("kite 0 1 1 3 0 0;shoal 0 1 2 1 1 9;stock 20");
            x.ask(0, 1);
            x.go(3);
            x.keep(1);
            x.ask(0, 2);
            Checks.writeText(x, text);
            due("cliff of '" + text + "'", x.cliff(), NOT);
            due("no line is done", x.count(2), 0);
            due("no line is done", x.count(3), 20);
            due("the text stays", x.count(10), text.length());
            due("the day stays", x.count(6), 3);
            due("hours up stay", x.kite(0, 3), 3);
            due("asked stays", x.kite(0, 1), 2);
            due("the kept day stays", x.back(1), 3);
            due("the text stays", x.erase(), text.length());
        }
        DOC.says(5, "NOT: it can be mended");
        FishingKites y = new FishingKites();
        Checks.writeText(y, "law 2;");
        due("cliff", y.cliff(), NOT);
        Checks.writeText(y, "calm");
        due("cliff", y.cliff(), 2);
        due("law", y.count(2), 2);
    }

    private static void windLine() {
        DOC.says(5, "wind: at H in HOURS A to B");
        for (int[] hours : new int[][] {{0, 0}, {0, 11}, {11, 11}, {3, 7}, {5, 5}}) {
            for (int height = 1; height <= 3; height++) {
                FishingKites x = Checks.told("wind " + height + " " + hours[0] + " " + hours[1] + " 9 6");
                for (int hour = 0; hour <= 11; hour++) {
                    boolean isIn = hour >= hours[0] && hour <= hours[1];
                    due("strength in " + hour, x.wind(height, hour, 0), isIn ? 9 : 0);
                    due("drift in " + hour, x.wind(height, hour, 1), isIn ? 6 : 3);
                    due("another height", x.wind(height % 3 + 1, hour, 0), 0);
                }
            }
        }
        DOC.says(5, "D told 3 more than DRIFT");
        for (int d = 0; d <= 6; d++) {
            FishingKites x = Checks.told("wind 1 0 0 0 " + d, "kite 0 4 1 3 0 0");
            due("wind", x.wind(1, 0, 1), d);
            due("x by a string of 3", x.where(0, 1, 0), 20 + 4 + d - 3);
        }
    }

    private static void kiteLine() {
        DOC.says(5, "kite K P Z L N C: KITES are 0 .. 5");
        for (int k = 0; k <= 5; k++) {
            FishingKites x = Checks.told("kite " + k + " 0 1 1 0 0");
            due("told", x.count(0), 1 << k);
            for (int other = 0; other <= 5; other++) {
                due("kite(" + other + ", 0)", x.kite(other, 0), other == k ? 0 : UNKNOWN);
            }
        }
        DOC.says(5, "POST 0 .. 9, LONG 1 .. 9");
        due("post 0", Checks.told("kite 0 0 1 4 0 0").where(0, 1, 0), 30);
        due("post 9", Checks.told("kite 0 9 1 4 0 0").where(0, 1, 0), 39);
        due("long 9", Checks.told("kite 0 9 1 9 0 0").where(0, 3, 0), 69);
        due("long 1", Checks.told("kite 0 9 1 1 0 0").where(0, 1, 0), NONE);
        due("long 1 of 10", Checks.told("kite 0 9 1 1 0 0;kite 1 9 1 9 0 0").share(999, 0), 100);
        DOC.says(5, "SIZE 1 .. 5, NET 0 .. 9");
        due("size 1", Checks.told("wind 1 0 0 8 3;kite 0 0 1 4 9 0").hinders(0, 1, 0), 1);
        due("size 1", Checks.told("wind 1 0 0 9 3;kite 0 0 1 4 9 0").hinders(0, 1, 0), 0);
        due("size 5", Checks.told("wind 1 0 0 1 3;kite 0 0 5 4 5 0").hinders(0, 1, 0), 0);
        due("size 5", Checks.told("wind 1 0 0 1 3;kite 0 0 5 4 6 0").hinders(0, 1, 0), 1);
        due("net 0", Checks.told("kite 0 0 1 4 0 0").hinders(0, 1, 0), 0);
        DOC.says(5, "CLAN 0 .. 2");
        for (int clan = 0; clan <= 2; clan++) {
            FishingKites x = Checks.told("law 1;kite 0 0 1 4 0 " + clan + ";kite 1 0 1 4 0 1");
            due("clan " + clan + " and clan 1", x.tangle(0, 1, 1, 0), clan > 1 ? 0 : 1);
        }
        DOC.says(5, "kite: told anew");
        FishingKites y = Checks.told("kite 0 0 1 1 0 0;kite 0 9 5 9 9 2");
        due("count(0)", y.count(0), 1);
        due("where", y.where(0, 3, 0), 69);
    }

    private static void shoalLine() {
        DOC.says(5, "shoal K X Y U V M: SHOALS are 0 .. 3");
        for (int s = 0; s <= 3; s++) {
            FishingKites x = Checks.told("shoal " + s + " 0 1 0 0 0");
            due("told", x.count(1), 1 << s);
            for (int other = 0; other <= 3; other++) {
                due("shoal(" + other + ", 2)", x.shoal(other, 2), other == s ? 0 : UNKNOWN);
            }
        }
        DOC.says(5, "a CELL, MANY fish (0 .. 99)");
        FishingKites y = Checks.told("shoal 0 0 1 1 1 0;shoal 1 9 6 1 1 99");
        int[][] due = {{100, 101, 0}, {109, 106, 99}};
        for (int s = 0; s < 2; s++) {
            for (int what = 0; what < 3; what++) {
                due("shoal(" + s + ", " + what + ")", y.shoal(s, what), due[s][what]);
            }
        }
        DOC.says(5, "shoal: U, V told 1 more than it moves");
        for (int u = 0; u <= 2; u++) {
            for (int v = 0; v <= 2; v++) {
                FishingKites x = Checks.told("shoal 2 5 3 " + u + " " + v + " 9");
                x.go(1);
                due("x by " + u, x.shoal(2, 0), 105 + u - 1);
                due("y by " + v, x.shoal(2, 1), 103 + v - 1);
            }
        }
        DOC.says(5, "shoal: told anew");
        FishingKites z = Checks.told("shoal 0 0 1 1 1 5;shoal 0 7 4 2 2 6");
        due("x", z.shoal(0, 0), 107);
        due("y", z.shoal(0, 1), 104);
        due("many", z.shoal(0, 2), 6);
    }

    private static void numberLines() {
        DOC.says(5, "law N: 0 .. 2");
        for (int n = 0; n <= 2; n++) {
            due("law " + n, Checks.told("law " + n).count(2), n);
        }
        DOC.says(5, "stock N: 0 .. 99");
        for (int n : new int[] {0, 1, 9, 10, 98, 99}) {
            due("stock " + n, Checks.told("stock " + n).count(3), n);
        }
        due("stock 07", Checks.told("stock 07").count(3), 7);
        due("stock 70", Checks.told("stock 70").count(3), 70);
        DOC.says(5, "gulls N: 0 .. 9");
        for (int n = 0; n <= 9; n++) {
            due("gulls " + n, Checks.told("gulls " + n).count(5), n);
        }
    }

    private static void fogLine() {
        DOC.says(5, "fog A B: HOURS A to B");
        due("the first", Checks.told("fog 0 0").count(4), 1);
        due("the last", Checks.told("fog 11 11").count(4), 2048);
        due("all", Checks.told("fog 0 11").count(4), 4095);
        due("some", Checks.told("fog 3 6").count(4), 0b1111000);
        DOC.says(5, "fog: HOURS A to B, too");
        due("beside one another", Checks.told("fog 3 4;fog 5 6").count(4), 0b1111000);
        due("over one another", Checks.told("fog 3 5;fog 4 6").count(4), 0b1111000);
        due("apart", Checks.told("fog 0 0;fog 11 11").count(4), 2049);
        due("in another text", Checks.told("fog 0 1", "fog 5 5", "law 1").count(4), 0b100011);
    }

    private static void calmLine() {
        DOC.says(5, "calm: no WIND, FOG, GULLS");
        FishingKites x = Checks.told("wind 1 0 11 9 0;wind 2 0 11 8 6;wind 3 0 11 7 1;fog 0 11;gulls 9;law 2;stock 99;kite 5 1 2 3 4 1;shoal 3 1 1 0 0 7", "calm");
        for (int height = 1; height <= 3; height++) {
            for (int hour = 0; hour <= 11; hour++) {
                due("strength", x.wind(height, hour, 0), 0);
                due("drift", x.wind(height, hour, 1), 3);
            }
        }
        due("fog", x.count(4), 0);
        due("gulls", x.count(5), 0);
        DOC.says(5, "calm: the rest stays");
        due("law", x.count(2), 2);
        due("stock", x.count(3), 99);
        due("kites", x.count(0), 32);
        due("shoals", x.count(1), 8);
        due("many", x.shoal(3, 2), 7);
    }

    private static void lostLine() {
        DOC.says(5, "lost: KITE K is not told any more");
        String six = "kite 0 0 1 4 0 0;kite 1 1 1 4 0 0;kite 2 2 1 4 0 0;kite 3 3 1 4 0 0;kite 4 4 1 4 0 0;kite 5 5 1 4 0 0";
        for (int k = 0; k <= 5; k++) {
            FishingKites x = Checks.told(six, "lost " + k);
            due("count(0)", x.count(0), 63 - (1 << k));
            due("kite", x.kite(k, 0), UNKNOWN);
            due("ask", x.ask(k, 1), UNKNOWN);
            due("where", x.where(k, 1, 0), UNKNOWN);
            due("hinders", x.hinders(k, 1, 0), UNKNOWN);
            due("tangle", x.tangle(k, (k + 1) % 6, 1, 0), UNKNOWN);
            due("tangle", x.tangle((k + 1) % 6, k, 1, 0), UNKNOWN);
            due("best", x.best(k), UNKNOWN);
            due("allDay", x.allDay(k), UNKNOWN);
            due("cut", x.cut(k, 0, 0, 0, 0), UNKNOWN);
            due("share", x.share(5, k), UNKNOWN);
            due("share of five", x.share(5, (k + 1) % 6), 1);
        }
        DOC.says(5, "lost: one that was not told");
        due("count(0)", Checks.told("lost 0;lost 5").count(0), 0);
        DOC.says(5, "lost: told again");
        FishingKites y = Checks.told(six, "lost 2", "kite 2 9 1 4 0 0");
        due("count(0)", y.count(0), 63);
        due("where", y.where(2, 1, 0), 39);
    }

    private static void linesInOrder() {
        DOC.says(5, "LINES are done in their order");
        due("law", Checks.told("law 1;law 2").count(2), 2);
        due("law", Checks.told("law 2;law 1").count(2), 1);
        due("kite, lost", Checks.told("kite 0 0 1 1 0 0;lost 0").count(0), 0);
        due("lost, kite", Checks.told("lost 0;kite 0 0 1 1 0 0").count(0), 1);
        due("gulls, calm", Checks.told("gulls 5;calm").count(5), 0);
        due("calm, gulls", Checks.told("calm;gulls 5").count(5), 5);
        due("fog, calm", Checks.told("fog 0 11;calm").count(4), 0);
        due("calm, fog", Checks.told("calm;fog 0 11").count(4), 4095);
        due("wind, calm", Checks.told("wind 1 0 11 9 6;calm").wind(1, 5, 0), 0);
        due("calm, wind", Checks.told("calm;wind 1 0 11 9 6").wind(1, 5, 0), 9);
        FishingKites x = Checks.told("wind 1 0 11 2 2;wind 1 4 4 3 4;wind 1 5 11 4 5");
        due("wind over wind", x.wind(1, 3, 0), 2);
        due("wind over wind", x.wind(1, 4, 0), 3);
        due("wind over wind", x.wind(1, 5, 1), 5);
    }

    private static void earlierTextsStay() {
        DOC.says(5, "what earlier texts told stays, where nothing else is told");
        FishingKites x = Checks.told("law 2;stock 5;fog 2 2;gulls 3;wind 2 4 5 6 1", "kite 3 4 2 4 9 1;shoal 1 5 2 2 0 44");
        Checks.writeText(x, "wind 2 5 6 7 2;kite 4 0 1 1 0 0;shoal 0 0 1 1 1 1");
        due("cliff", x.cliff(), 3);
        due("law", x.count(2), 2);
        due("stock", x.count(3), 5);
        due("fog", x.count(4), 4);
        due("gulls", x.count(5), 3);
        due("wind", x.wind(2, 4, 0), 6);
        due("wind told anew", x.wind(2, 5, 0), 7);
        due("wind told anew", x.wind(2, 6, 1), 2);
        due("kites", x.count(0), 0b11000);
        due("where", x.where(3, 1, 0), 34);
        due("shoals", x.count(1), 0b11);
        due("x", x.shoal(1, 0), 105);
        due("y", x.shoal(1, 1), 102);
        due("many", x.shoal(1, 2), 44);
        x.go(1);
        due("it moves as told", x.shoal(1, 0), 106);
        due("it moves as told", x.shoal(1, 1), 101);
    }

    private static void dayBegins() {
        FishingKites x = Checks.told("wind 1 0 11 9 3;gulls 3;fog 0 0", "kite 0 3 5 4 5 0;kite 1 3 5 4 5 0;shoal 0 3 3 1 1 99;shoal 1 9 6 2 2 9");
        x.ask(0, 1);
        x.ask(1, 1);
        x.go(12);
        DOC.says(5, "Behind them: what there was ahead of them");
        due("hours", x.count(6), 12);
        due("up", x.kite(0, 0), 1);
        due("caught", x.count(8), 66);
        due("gave way", x.kite(1, 4), 11);
        due("keep", x.keep(0), 12);
        due("keep", x.keep(1), 12);
        Checks.writeText(x, "law 2");
        due("cliff", x.cliff(), 1);
        DOC.says(5, "Behind them it is HOUR 0 of a DAY");
        due("count(6)", x.count(6), 0);
        due("takings", x.count(7), 0);
        due("taking", x.taking(0, 0), NONE);
        due("best is asked of an hour that is left", x.best(NONE), 0);
        DOC.says(5, "KITES are ASKED for HEIGHT 0");
        due("kite 0", x.kite(0, 1), 0);
        due("kite 1", x.kite(1, 1), 0);
        DOC.says(5, "nothing is caught");
        due("of all", x.count(8), 0);
        due("gulls", x.count(9), 0);
        for (int what : new int[] {0, 2, 3, 4}) {
            due("kite(0, " + what + ")", x.kite(0, what), 0);
            due("kite(1, " + what + ")", x.kite(1, what), 0);
        }
        DOC.says(5, "SHOALS are as told");
        due("many", x.shoal(0, 2), 99);
        due("x", x.shoal(1, 0), 109);
        due("y", x.shoal(1, 1), 106);
        DOC.says(5, "nothing is kept");
        due("back(0)", x.back(0), NOT);
        due("back(1)", x.back(1), NOT);
        DOC.says(5, "it is HOUR 0: in FOG nobody was UP in the HOUR ahead");
        x.ask(0, 1);
        x.go(1);
        due("up", x.kite(0, 0), 0);
        x.go(1);
        due("up behind the fog", x.kite(0, 0), 1);
    }
}
