/** All that can be seen of an object, as one text; it takes fewer than 400 calls, and the object is used up by it. */
final class Look {
    private final FishingKites kites;
    private final StringBuilder seen = new StringBuilder();

    private Look(FishingKites kites) {
        this.kites = kites;
    }

    static String of(FishingKites kites) {
        Look look = new Look(kites);
        look.told();
        look.day();
        look.foretold();
        look.keptDays();
        look.text();
        return look.seen.toString();
    }

    private void see(long answer) {
        seen.append(answer).append(' ');
    }

    private void told() {
        for (int height = 1; height <= 3; height++) {
            for (int hour = 0; hour < 12; hour++) {
                see(kites.wind(height, hour, 0));
                see(kites.wind(height, hour, 1));
            }
        }
        for (int k = 0; k < 6; k++) {
            see(kites.where(k, 1, 0));
            see(kites.hinders(k, 2, 1));
            see(kites.tangle(k, (k + 1) % 6, 1, 0));
            see(kites.share(100, k));
        }
    }

    private void day() {
        for (int what = 0; what <= 10; what++) {
            see(kites.count(what));
        }
        for (int k = 0; k < 6; k++) {
            for (int what = 0; what <= 4; what++) {
                see(kites.kite(k, what));
            }
        }
        for (int s = 0; s < 4; s++) {
            for (int what = 0; what <= 2; what++) {
                see(kites.shoal(s, what));
            }
        }
        for (int i = 0; i < 10; i++) {
            for (int what = 0; what <= 3; what++) {
                see(kites.taking(i, what));
            }
        }
    }

    private void foretold() {
        for (int k = -1; k < 6; k++) {
            see(kites.best(k));
            see(kites.allDay(k));
        }
        see(kites.laws(0));
        see(kites.laws(1));
    }

    /** The hour that comes shows who was up ahead of it. */
    private void keptDays() {
        see(kites.go(1));
        day();
        see(kites.back(0));
        see(kites.count(8));
        see(kites.kite(0, 1));
        see(kites.back(1));
        see(kites.count(8));
        see(kites.kite(0, 1));
    }

    private void text() {
        see(kites.fault());
        see(kites.cliff());
        see(kites.count(2));
        see(kites.count(3));
        see(kites.erase());
    }
}
