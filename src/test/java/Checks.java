import java.nio.charset.StandardCharsets;

/** What the tests share: due answers are counted, texts are written in pieces of eight bytes. */
final class Checks {
    private int wrong = 0;
    private int asked = 0;

    void due(String call, long got, long want) {
        asked++;
        if (got != want) {
            wrong++;
            System.out.println(call + " answered " + got + ", due is " + want);
        }
    }

    void holds(String what, boolean isSo) {
        due(what, isSo ? 1 : 0, 1);
    }

    void end() {
        System.out.println(asked + " answers, " + wrong + " of them wrong");
        if (wrong != 0) {
            System.exit(1);
        }
    }

    /** Writes a text behind what stands; answers what the last write answered. */
    static int writeText(FishingKites kites, String text) {
        byte[] bytes = text.getBytes(StandardCharsets.ISO_8859_1);
        int last = 0;
        for (int from = 0; from < bytes.length; from += 8) {
            int n = Math.min(8, bytes.length - from);
            long row = 0;
            for (int i = 0; i < n; i++) {
                row |= (bytes[from + i] & 255L) << 8 * i;
            }
            last = kites.write(row, n);
        }
        return last;
    }

    /** Where a text has its fault, on an object whose text is empty before and behind. */
    static int faultOf(FishingKites kites, String text) {
        writeText(kites, text);
        int fault = kites.fault();
        kites.erase();
        return fault;
    }

    /** An object to which texts were told, each by itself. */
    static FishingKites told(String... texts) {
        FishingKites kites = new FishingKites();
        for (String text : texts) {
            writeText(kites, text);
            if (kites.cliff() < 1) {
                throw new IllegalStateException("the test's own text is at fault: " + text);
            }
        }
        return kites;
    }
}
