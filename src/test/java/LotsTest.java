/** Promises 26 to 37: lots, rolls, years, images, told. */
public final class LotsTest {
    private static final int UNKNOWN = -1, OUTSIDE = -2, STATE = -3, FULL = -4;
    private static final long GONE = -1000000000000000000L;
    private static final Due due = new Due("LotsTest");

    public static void main(String[] args) {
        aboardAndAshore();
        lots();
        often();
        rolls();
        twice();
        burnt();
        years();
        images();
        imagesAndLaterChanges();
        imagesAndThePad();
        told();
        due.close();
    }

    private static void aboardAndAshore() {
        StraitFleet x = new StraitFleet();
        due.is("26: aboard", x.aboard(7, 9), 1);
        due.is("26: aboard", x.aboard(0, 0), 2);
        due.is("26: otherwise", x.aboard(7, 3), 2);
        due.is("26: drawn", x.told(27), 3);
        due.is("26: bits", x.told(12), 129);
        due.is("26: number", x.aboard(-1, 0), UNKNOWN);
        due.is("26: number", x.aboard(8, 10), UNKNOWN);
        due.is("26: drawn", x.aboard(0, -1), OUTSIDE);
        due.is("26: drawn", x.aboard(0, 10), OUTSIDE);
        due.is("26: refused changes nothing", x.told(20), 0);
        due.is("27: was not", x.ashore(1), UNKNOWN);
        due.is("27: number", x.ashore(-1), UNKNOWN);
        due.is("27: number", x.ashore(8), UNKNOWN);
        due.is("27: number", x.ashore(39), UNKNOWN);
        due.is("27: ashore", x.ashore(7), 1);
        due.is("27: ashore already", x.ashore(7), UNKNOWN);
        due.is("27: bits", x.told(12), 1);
        due.is("27: the last", x.ashore(0), 0);
    }

    private static void lots() {
        StraitFleet x = new StraitFleet();
        int[] drawn = {2, 5, 2, 0, 5, 5, 2, 5};
        for (int name = 0; name < 8; name++) {
            x.aboard(name, drawn[name]);
        }
        // one has drawn 0, three have drawn 2, four have drawn 5
        lotIs(x, 1, 3, 1, 1);
        lotIs(x, 1, 0, 0, 1);
        lotIs(x, 2, 3, 1, 1);
        lotIs(x, 2, 0, 1, 3);
        lotIs(x, 3, 6, 2, 3);
        lotIs(x, 4, 2, 1, 1);
        lotIs(x, 4, 1, 0, 1);
        lotIs(x, 5, 7, 1, 4);
        lotIs(x, 6, 4, 1, 2);
        lotIs(x, 7, 5, 3, 4);
        lotIs(x, 8, 5, 1, 1);
        due.is("28: n", x.lot(0, 3, 0), GONE + OUTSIDE);
        due.is("28: n", x.lot(9, 3, 0), GONE + OUTSIDE);
        due.is("28: part", x.lot(1, 3, -1), GONE + OUTSIDE);
        due.is("28: part", x.lot(1, 3, 2), GONE + OUTSIDE);
        due.is("28: number", x.lot(1, -1, 0), GONE + UNKNOWN);
        due.is("28: number", x.lot(0, 8, 2), GONE + UNKNOWN);
        x.ashore(3);
        due.is("28: more than are aboard", x.lot(8, 0, 0), GONE + OUTSIDE);
        due.is("28: ashore", x.lot(1, 3, 0), GONE + UNKNOWN);
        lotIs(x, 1, 0, 1, 3);
        lotIs(x, 7, 1, 1, 1);
        due.is("28: nobody has drawn by it", x.told(20), 2);
    }

    private static void lotIs(StraitFleet x, int n, int name, long upper, long lower) {
        due.is("28: lot(" + n + ", " + name + "), upper", x.lot(n, name, 0), upper);
        due.is("28: lot(" + n + ", " + name + "), lower", x.lot(n, name, 1), lower);
    }

    private static void often() {
        oftenIs(2, 1, 8, 4, 163, 256);
        oftenIs(2, 1, 8, 8, 1, 256);
        oftenIs(8, 1, 8, 8, 1, 16777216);
        oftenIs(8, 7, 8, 8, 5764801, 16777216);
        oftenIs(8, 1, 8, 1, 16777216 - 5764801, 16777216);
        oftenIs(8, 3, 1, 1, 3, 8);
        oftenIs(8, 4, 1, 1, 1, 2);
        oftenIs(6, 2, 2, 1, 5, 9);
        oftenIs(5, 2, 3, 0, 1, 1);
        oftenIs(5, 0, 3, 0, 1, 1);
        oftenIs(5, 0, 3, 1, 0, 1);
        oftenIs(5, 5, 3, 3, 1, 1);
        oftenIs(5, 5, 3, 4, 0, 1);
        oftenIs(1, 1, 1, 8, 0, 1);
        oftenIs(1, 0, 8, 0, 1, 1);
        int[][] wrong = {
            {0, 0, 1, 0, 0}, {9, 1, 1, 0, 0}, {4, -1, 1, 0, 0}, {4, 5, 1, 0, 0}, {4, 1, 0, 0, 0},
            {4, 1, 9, 0, 0}, {4, 1, 1, -1, 0}, {4, 1, 1, 9, 0}, {4, 1, 1, 0, -1}, {4, 1, 1, 0, 2},
        };
        StraitFleet x = new StraitFleet();
        for (int[] w : wrong) {
            due.is("29: refused", x.often(w[0], w[1], w[2], w[3], w[4]), GONE + OUTSIDE);
        }
    }

    private static void oftenIs(int m, int n, int r, int k, long upper, long lower) {
        String call = "29: often(" + m + ", " + n + ", " + r + ", " + k + ")";
        due.is(call + ", upper", new StraitFleet().often(m, n, r, k, 0), upper);
        due.is(call + ", lower", new StraitFleet().often(m, n, r, k, 1), lower);
    }

    private static void rolls() {
        StraitFleet x = new StraitFleet();
        due.is("30: names", x.roll(-1, 8), OUTSIDE);
        due.is("30: names", x.roll(256, 8), OUTSIDE);
        due.is("30: many", x.roll(0, -1), OUTSIDE);
        due.is("30: many", x.roll(0, 9), OUTSIDE);
        due.is("30: fewer than read", x.roll(255, 7), OUTSIDE);
        due.is("30: fewer than read", x.roll(1, 0), OUTSIDE);
        int[] names = {0, 255, 128, 85, 0, 7};
        int[] many = {0, 8, 1, 4, 8, 8};
        for (int i = 0; i < 6; i++) {
            due.is("30: roll", x.roll(names[i], many[i]), i + 1);
        }
        due.is("30: full", x.roll(0, 0), FULL);
        due.is("30: outside before full", x.roll(0, 9), OUTSIDE);
        due.is("30: rolls", x.told(13), 6);
        due.is("31: forget", x.forget(), 6);
        due.is("31: forgotten", x.forget(), 0);
        due.is("31: rolls", x.told(13), 0);
        due.is("31: burnt", x.burnt(), 1);
        due.is("31: twice", x.twice(1), 0);
        due.is("30: again", x.roll(0, 0), 1);
        x.forget();
        for (int i = 0; i < 6; i++) {
            x.roll(0, 4);
        }
        x.forget();
        x.roll(0, 1);
        due.is("31: burnt by the new one alone", x.burnt(), 8);
        due.is("31: twice by the new one alone", x.twice(1), 0);
    }

    private static void twice() {
        twiceIs(0, 0);
        twiceIs(0, 0, 255, 8); // one roll is not two
        twiceIs(0, 0, 0, 8);
        twiceIs(255, 255, 255, 8, 255, 8);
        twiceIs(0, 0, 3, 2, 12, 2); // no room
        twiceIs(0, 3, 3, 2, 12, 3); // room on the other one
        twiceIs(0, 12, 3, 3, 12, 2);
        twiceIs(0, 255, 3, 3, 12, 3);
        twiceIs(1, 1, 1, 1, 1, 1);
        twiceIs(1, 3, 3, 2, 1, 2); // the room is on one roll alone
        twiceIs(0, 7, 7, 3, 0, 1);
        twiceIs(0, 255, 0, 1, 0, 1);
        twiceIs(0, 1, 0, 1, 1, 1);
        twiceIs(0, 0, 0, 0, 128, 1);
        twiceIs(128, 129, 129, 2, 128, 1, 0, 1, 128, 1);
        twiceIs(2, 2, 3, 2, 6, 2, 8, 1, 2, 1);
        StraitFleet x = new StraitFleet();
        due.is("32: how", x.twice(-1), OUTSIDE);
        due.is("32: how", x.twice(2), OUTSIDE);
    }

    private static void twiceIs(int surely, int perhaps, int... rolls) {
        StraitFleet x = new StraitFleet();
        StringBuilder text = new StringBuilder("32:");
        for (int i = 0; i + 1 < rolls.length; i += 2) {
            x.roll(rolls[i], rolls[i + 1]);
            text.append(" roll ").append(rolls[i]).append(" of ").append(rolls[i + 1]);
        }
        due.is(text + ", surely", x.twice(0), surely);
        due.is(text + ", perhaps", x.twice(1), perhaps);
    }

    private static void burnt() {
        burntIs(1);
        burntIs(1, 0, 0);
        burntIs(8, 0, 1);
        burntIs(70, 0, 4);
        burntIs(1, 0, 8);
        burntIs(1, 255, 8);
        burntIs(7, 1, 2);
        burntIs(7, 1, 7);
        burntIs(20, 3, 5);
        burntIs(140, 3, 5, 1, 2);
        burntIs(117649000000L, 0, 4, 0, 4, 0, 4, 0, 4, 0, 4, 0, 4);
    }

    private static void burntIs(long want, int... rolls) {
        StraitFleet x = new StraitFleet();
        for (int i = 0; i + 1 < rolls.length; i += 2) {
            x.roll(rolls[i], rolls[i + 1]);
        }
        due.is("33: burnt by " + rolls.length / 2, x.burnt(), want);
    }

    private static void years() {
        // from 0 on y is 74 (hour 2, 3 tenths), 5624 (hour 8, 4), 28652 (hour 20, 3), 51790 (hour 22, 7)
        StraitFleet x = Due.withTide("004000005000000000000000");
        x.ship(1, 10, 2, 50);
        yearsAre(x, 0, 1, 150, 40, 1);
        yearsAre(x, 0, 2, 300, 80, 2);
        yearsAre(x, 0, 3, 300, 120, 2);
        yearsAre(x, 0, 4, 300, 160, 2);
        Due.text(x, "003000004000000000000000").tide();
        yearsAre(x, 0, 4, 0, 160, 0);
        Due.text(x, "000000000000000000004080").tide();
        yearsAre(x, 0, 4, 300, 160, 2);
        Due.text(x, "4").tide();
        yearsAre(x, 0, 4, 300, 160, 2);
        x.set(7, 99);
        yearsAre(x, 0, 4, 300, 160, 2);
        due.is("34: x stays", x.told(9), 99);
        due.is("34: the ship stays", x.state(1, 0), 0);
        x.ship(1, 3, 0, 50);
        due.is("34: T takes all", x.years(1, 9999, 99, 1), 99 * 80);
        Due.text(x, "0").tide();
        due.is("34: never", x.years(1, 9999, 99, 2), 0);
        Due.text(x, "BC").done();
        due.is("34: through already", x.years(1, 0, 1, 1), 80);
        due.is("34: ship", x.years(0, -1, 0, 3), UNKNOWN);
        due.is("34: ship", x.years(-1, 0, 1, 0), UNKNOWN);
        due.is("34: ship", x.years(6, 0, 1, 0), UNKNOWN);
        due.is("34: seed", x.years(1, -1, 1, 0), OUTSIDE);
        due.is("34: seed", x.years(1, 10000, 1, 0), OUTSIDE);
        due.is("34: n", x.years(1, 0, 0, 0), OUTSIDE);
        due.is("34: n", x.years(1, 0, 100, 0), OUTSIDE);
        due.is("34: what", x.years(1, 0, 1, -1), OUTSIDE);
        due.is("34: what", x.years(1, 0, 1, 3), OUTSIDE);
    }

    private static void yearsAre(StraitFleet x, int seed, int n, int byW, int byT, int taken) {
        due.is("34: W in " + n, x.years(1, seed, n, 0), byW);
        due.is("34: T in " + n, x.years(1, seed, n, 1), byT);
        due.is("34: years of " + n, x.years(1, seed, n, 2), taken);
    }

    private static void images() {
        StraitFleet x = Due.withTide("9");
        due.is("36: was not kept", x.restore(0), STATE);
        due.is("35: n", x.image(-1), OUTSIDE);
        due.is("35: n", x.image(2), OUTSIDE);
        due.is("36: n", x.restore(-1), OUTSIDE);
        due.is("36: n", x.restore(2), OUTSIDE);
        due.is("35: a new one", x.image(1), 1);
        fill(x);
        due.is("35: a full one", x.image(0), 1);
        String full = Snapshot.of(x);
        x.restore(1);
        due.holds("36: as it was at first", Snapshot.of(x).equals(Snapshot.of(Due.withTide("9"))));
        due.is("36: restored", x.restore(0), 1);
        due.holds("36: as it was when it was full", full.equals(Snapshot.of(x)));
    }

    private static void imagesAndLaterChanges() {
        StraitFleet x = Due.withTide("9");
        x.image(1);
        fill(x);
        x.image(0);
        String full = Snapshot.of(x);
        unfill(x);
        due.is("36: what comes later does not change the image", x.restore(0), 1);
        due.holds("36: as it was when it was full", full.equals(Snapshot.of(x)));
        due.is("36: the other one", x.restore(1), 1);
        due.holds("36: as it was at first", Snapshot.of(x).equals(Snapshot.of(Due.withTide("9"))));
    }

    private static void imagesAndThePad() {
        StraitFleet x = Due.withTide("9");
        fill(x);
        x.image(0);
        String full = Snapshot.of(x);
        unfill(x);
        x.wipe();
        x.say(65);
        x.image(1);
        x.say(66);
        x.restore(1);
        due.is("36: the pad stays", x.told(0), 2);
        x.restore(0);
        due.is("36: the pad stays", x.told(0), 2);
        x.image(1);
        x.wipe();
        x.restore(1);
        due.is("36: the pad stays wiped", x.told(0), 0);
        due.holds("35: kept anew", full.equals(Snapshot.of(x)));
    }

    /** Changes everything that an image keeps. */
    private static void fill(StraitFleet x) {
        for (int which = 0; which < 7; which++) {
            x.set(which, 3 + which);
        }
        x.set(7, 4711);
        Due.text(x, "1234").tide();
        for (int ship = 0; ship < 5; ship++) {
            x.ship(ship, 9 + ship, ship, 10 * ship + 5);
        }
        Due.text(x, "AT.BCCW.").done();
        x.ship(5, 2, 0, 77);
        Due.text(x, "FT").done();
        x.offer(1, 2, 300);
        x.offer(2, 5, 100);
        x.aboard(3, 4);
        x.aboard(6, 1);
        x.roll(5, 4);
        x.roll(1, 2);
    }

    private static void unfill(StraitFleet x) {
        for (int which = 0; which < 8; which++) {
            x.set(which, 1);
        }
        Due.text(x, "98").tide();
        for (int ship = 0; ship < 6; ship++) {
            x.ship(ship, 30, 1, 1);
        }
        Due.text(x, "ATBTCTDTETFW").done();
        x.scrap(2);
        x.noOffers();
        x.offer(0, 1, 1);
        x.offer(1, 1, 1);
        x.aboard(3, 9);
        x.ashore(6);
        x.forget();
        x.roll(255, 8);
    }

    private static void told() {
        StraitFleet x = Due.withTide("123456789012345678901234");
        fill(x);
        Due.text(x, "?!?");
        int[] want = {3, 63, 3, 4, 5, 6, 7, 8, 9, 25714, 4, 6, 72, 2};
        for (int what = 0; what < want.length; what++) {
            due.is("37: told(" + what + ")", x.told(what), want[what]);
        }
        for (int name = 0; name < 8; name++) {
            due.is("37: drawn of " + name, x.told(20 + name), name == 3 ? 4 : name == 6 ? 1 : OUTSIDE);
        }
        int[] cargo = {5, 15, 25, 35, 45, 0};
        for (int ship = 0; ship < 6; ship++) {
            due.is("37: cargo of " + ship, x.told(30 + ship), cargo[ship]);
        }
        x.scrap(3);
        due.is("37: cargo of none", x.told(33), OUTSIDE);
        for (int hour = 0; hour < 24; hour++) {
            due.is("37: digit of " + hour, x.told(100 + hour), hour % 4 + 1);
        }
        int[] wrong = {-1, 14, 19, 28, 29, 36, 99, 124, Integer.MAX_VALUE, Integer.MIN_VALUE};
        for (int what : wrong) {
            due.is("37: told(" + what + ")", x.told(what), OUTSIDE);
        }
    }
}
