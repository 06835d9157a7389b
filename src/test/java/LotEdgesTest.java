/** Each sentence of the document on lots, rolls, years, images and told that names a boundary: promises 26 to 37. */
public final class LotEdgesTest {
    private static final int UNKNOWN = -1, OUTSIDE = -2, STATE = -3, FULL = -4;
    private static final long GONE = -1000000000000000000L;
    private static final int TEETH = 0, LIFE = 1, SEED = 7;
    private static final Due due = new Due("LotEdgesTest");

    public static void main(String[] args) {
        aboardAndAshore();
        lots();
        lotsOfAll();
        often();
        oftenAtTheEnds();
        rolls();
        surelyTwice();
        perhapsTwice();
        burnt();
        yearsByDraws();
        yearsAtTheEnds();
        images();
        whatAnImageKeeps();
        told();
        due.close();
    }

    private static void aboardAndAshore() {
        due.sentence("Promise 26", "A NAME is aboard (or otherwise): how many are");
        StraitFleet x = new StraitFleet();
        int[] order = {7, 0, 4, 3, 6, 1, 5, 2};
        int bits = 0;
        for (int i = 0; i < 8; i++) {
            bits |= 1 << order[i];
            due.is("one more", x.aboard(order[i], 0), i + 1);
            due.is("bits", x.told(12), bits);
            due.is("drawn", x.told(20 + order[i]), 0);
            due.is("otherwise", x.aboard(order[i], 9), i + 1);
            due.is("bits", x.told(12), bits);
            due.is("drawn", x.told(20 + order[i]), 9);
        }
        due.is("a ninth", x.aboard(8, 0), UNKNOWN);
        due.is("none so small", x.aboard(-1, 0), UNKNOWN);
        due.sentence("Promise 26", "each having DRAWN the short one so often (0 to 9)");
        for (int drawn = 0; drawn <= 9; drawn++) {
            x.aboard(5, drawn);
            due.is("drawn", x.told(25), drawn);
        }
        due.is("too small", x.aboard(5, -1), OUTSIDE);
        due.is("too large", x.aboard(5, 10), OUTSIDE);
        due.is("as before", x.told(25), 9);
        due.sentence("Promise 27", "A NAME goes ashore: how many are aboard");
        for (int i = 0; i < 8; i++) {
            due.is("ashore", x.ashore(order[i]), 7 - i);
            bits &= ~(1 << order[i]);
            due.is("bits", x.told(12), bits);
            due.is("drawn of a name ashore", x.told(20 + order[i]), OUTSIDE);
        }
        due.sentence("Promise 27", "UNKNOWN: it was not");
        for (int name = -1; name <= 8; name++) {
            due.is("ashore(" + name + ")", x.ashore(name), UNKNOWN);
        }
        due.is("aboard again", x.aboard(3, 4), 1);
        due.is("drawn anew", x.told(23), 4);
    }

    private static void lotIs(StraitFleet x, int n, int name, long upper, long lower) {
        String of = " of " + name + " for " + n;
        due.is("upper" + of, x.lot(n, name, 0), upper);
        due.is("lower" + of, x.lot(n, name, 1), lower);
    }

    private static void lots() {
        due.sentence("Promise 28", "those who have DRAWN least go first, all alike by fair lots");
        StraitFleet x = new StraitFleet();
        int[] drawn = {9, 0, 5, 0, 5, 9, 0, 5}; // three by 0, three by 5, two by 9
        for (int name = 0; name < 8; name++) {
            x.aboard(name, drawn[name]);
        }
        long[][] least = {{1, 3}, {2, 3}, {1, 1}, {1, 1}, {1, 1}, {1, 1}, {1, 1}, {1, 1}};
        long[][] middle = {{0, 1}, {0, 1}, {0, 1}, {1, 3}, {2, 3}, {1, 1}, {1, 1}, {1, 1}};
        long[][] most = {{0, 1}, {0, 1}, {0, 1}, {0, 1}, {0, 1}, {0, 1}, {1, 2}, {1, 1}};
        for (int name = 0; name < 8; name++) {
            long[][] rows = drawn[name] == 0 ? least : drawn[name] == 5 ? middle : most;
            for (int n = 1; n <= 8; n++) {
                lotIs(x, n, name, rows[n - 1][0], rows[n - 1][1]);
            }
        }
        due.sentence("Promise 28", "A LOT for n (1 to 8, no more than are aboard)");
        for (int aboard = 1; aboard <= 8; aboard++) {
            x = new StraitFleet();
            for (int name = 0; name < aboard; name++) {
                x.aboard(7 - name, name);
            }
            due.is("for none", x.lot(0, 7, 0), GONE + OUTSIDE);
            due.is("for less than none", x.lot(-1, 7, 0), GONE + OUTSIDE);
            lotIs(x, aboard, 7, 1, 1);
            lotIs(x, aboard, 8 - aboard, 1, 1);
            due.is("for one more than are aboard", x.lot(aboard + 1, 7, 0), GONE + OUTSIDE);
            due.is("for nine", x.lot(9, 7, 1), GONE + OUTSIDE);
            x.ashore(7);
            due.is("of one who went ashore", x.lot(1, 7, 0), GONE + UNKNOWN);
            if (aboard > 1) {
                due.is("for as many as were aboard", x.lot(aboard, 8 - aboard, 0), GONE + OUTSIDE);
                lotIs(x, aboard - 1, 8 - aboard, 1, 1);
            }
        }
    }

    private static void lotsOfAll() {
        due.sentence("Terms", "Fractions are told in lowest terms by part: 0 the upper, 1 the lower number");
        for (int aboard = 1; aboard <= 8; aboard++) {
            StraitFleet x = new StraitFleet();
            for (int name = 0; name < aboard; name++) {
                x.aboard(name, 3);
            }
            for (int n = 1; n <= aboard; n++) {
                int divisor = n;
                while (n % divisor != 0 || aboard % divisor != 0) {
                    divisor--;
                }
                lotIs(x, n, aboard - 1, n / divisor, aboard / divisor);
            }
        }
        due.sentence("Promise 28", "who have DRAWN least: one time more is enough to go later");
        StraitFleet x = new StraitFleet();
        x.aboard(0, 9);
        x.aboard(1, 8);
        lotIs(x, 1, 0, 0, 1);
        lotIs(x, 1, 1, 1, 1);
        x.aboard(1, 9);
        lotIs(x, 1, 0, 1, 2);
        lotIs(x, 1, 1, 1, 2);
        x.aboard(0, 0);
        lotIs(x, 1, 0, 1, 1);
        lotIs(x, 1, 1, 0, 1);
        lotIs(x, 2, 1, 1, 1);
        due.is("it is not drawn by being asked", x.told(20), 0);
    }

    private static void oftenIs(int m, int n, int r, int k, long upper, long lower) {
        StraitFleet x = new StraitFleet();
        String of = " of often(" + m + ", " + n + ", " + r + ", " + k + ")";
        due.is("upper" + of, x.often(m, n, r, k, 0), upper);
        due.is("lower" + of, x.often(m, n, r, k, 1), lower);
    }

    private static void often() {
        due.sentence("Promise 29", "that one of m names (1 to 8), in r lots (1 to 8) of n names each (0 to m)");
        oftenIs(1, 0, 1, 0, 1, 1);
        oftenIs(1, 0, 1, 1, 0, 1);
        oftenIs(1, 1, 1, 1, 1, 1);
        oftenIs(1, 1, 8, 8, 1, 1);
        oftenIs(2, 1, 1, 1, 1, 2);
        oftenIs(2, 1, 2, 1, 3, 4);
        oftenIs(2, 1, 2, 2, 1, 4);
        oftenIs(3, 2, 3, 2, 20, 27);
        oftenIs(8, 1, 8, 8, 1, 16777216);
        oftenIs(8, 1, 8, 1, 11012415, 16777216);
        oftenIs(8, 7, 8, 8, 5764801, 16777216);
        oftenIs(8, 7, 8, 1, 16777215, 16777216);
        oftenIs(7, 6, 8, 1, 5764800, 5764801);
        oftenIs(7, 1, 8, 8, 1, 5764801);
        due.sentence("Promise 29", "in lowest terms");
        oftenIs(8, 4, 1, 1, 1, 2);
        oftenIs(8, 4, 8, 4, 163, 256);
        oftenIs(6, 2, 2, 1, 5, 9);
        oftenIs(8, 2, 2, 2, 1, 16);
        oftenIs(8, 6, 8, 8, 6561, 65536);
    }

    private static void oftenAtTheEnds() {
        due.sentence("Promise 29", "is drawn k times (0 to 8) at least: 0 times is certain, more than r times can not be");
        for (int m = 1; m <= 8; m++) {
            for (int r = 1; r <= 8; r++) {
                for (int n = 0; n <= m; n++) {
                    oftenIs(m, n, r, 0, 1, 1);
                    if (r < 8) {
                        oftenIs(m, n, r, r + 1, 0, 1);
                        oftenIs(m, n, r, 8, 0, 1);
                    }
                }
            }
        }
        due.sentence("Promise 29", "n names each (0 to m): none is drawn of none, all are of all");
        for (int m = 1; m <= 8; m++) {
            for (int r = 1; r <= 8; r++) {
                for (int k = 1; k <= r; k++) {
                    oftenIs(m, 0, r, k, 0, 1);
                    oftenIs(m, m, r, k, 1, 1);
                }
            }
        }
        due.sentence("Promise 29", "OFTEN does not go by who is aboard");
        StraitFleet x = new StraitFleet();
        x.aboard(0, 9);
        due.is("upper", x.often(8, 1, 1, 1, 0), 1);
        due.is("lower", x.often(8, 1, 1, 1, 1), 8);
    }

    private static void rolls() {
        due.sentence("Promise 30", "A ROLL more: how many. ROLLS, 6 at most");
        StraitFleet x = new StraitFleet();
        int[][] rows = {{0, 0}, {255, 8}, {0, 8}, {128, 1}, {1, 8}, {127, 7}};
        for (int i = 0; i < 6; i++) {
            due.is("told(13)", x.told(13), i);
            due.is("roll", x.roll(rows[i][0], rows[i][1]), i + 1);
        }
        due.is("a seventh", x.roll(0, 0), FULL);
        due.is("told(13)", x.told(13), 6);
        due.is("a seventh that is none", x.roll(256, 8), OUTSIDE);
        due.is("a seventh that is none", x.roll(255, 7), OUTSIDE);
        due.sentence("Promise 31", "ROLLS go: how many there were");
        due.is("six", x.forget(), 6);
        due.is("none", x.forget(), 0);
        due.is("told(13)", x.told(13), 0);
        due.is("surely twice", x.twice(0), 0);
        due.is("perhaps twice", x.twice(1), 0);
        due.is("ways", x.burnt(), 1);
        for (int i = 1; i <= 6; i++) {
            due.is("six again", x.roll(1, 1), i);
        }
        due.is("a seventh again", x.roll(1, 1), FULL);
        due.is("a new object", new StraitFleet().forget(), 0);
        due.sentence("Promise 31", "ROLLS that went are not read again");
        for (int again = 0; again <= 5; again++) {
            x = withRolls(15, 6, 15, 6, 15, 6, 15, 6, 15, 6, 15, 6);
            x.forget();
            for (int i = 0; i < again; i++) {
                x.roll(0, 0);
            }
            due.is("rolls", x.told(13), again);
            twiceIs(x, 0, 0);
            due.is("ways", x.burnt(), 1);
        }
        x = withRolls(15, 6, 15, 6);
        x.forget();
        x.roll(15, 6);
        twiceIs(x, 0, 0);
        due.is("ways", x.burnt(), 6);
        due.sentence("Promise 30", "OUTSIDE: the NAMES 0 to 255, how many 0 to 8, no fewer than can be read");
        x = new StraitFleet();
        due.is("-1 names", x.roll(-1, 8), OUTSIDE);
        due.is("256 names", x.roll(256, 8), OUTSIDE);
        due.is("-1 in all", x.roll(0, -1), OUTSIDE);
        due.is("9 in all", x.roll(0, 9), OUTSIDE);
        due.is("9 in all, all read", x.roll(255, 9), OUTSIDE);
        due.is("2 of 3", x.roll(7, 2), OUTSIDE);
        due.is("7 of 8", x.roll(255, 7), OUTSIDE);
        due.is("0 of 1", x.roll(128, 0), OUTSIDE);
        due.is("told(13)", x.told(13), 0);
        due.is("3 of 3", x.roll(7, 3), 1);
        due.is("8 of 8", x.roll(255, 8), 2);
    }

    /** Rolls told as names and many, one behind the other. */
    private static StraitFleet withRolls(int... rows) {
        StraitFleet x = new StraitFleet();
        for (int i = 0; i + 1 < rows.length; i += 2) {
            x.roll(rows[i], rows[i + 1]);
        }
        return x;
    }

    private static void twiceIs(StraitFleet x, int surely, int perhaps) {
        due.is("surely", x.twice(0), surely);
        due.is("perhaps", x.twice(1), perhaps);
    }

    private static void surelyTwice() {
        due.sentence("Promise 32", "NAMES that are read on two rolls at least (how = 0)");
        twiceIs(withRolls(), 0, 0);
        twiceIs(withRolls(255, 8), 0, 0);
        twiceIs(withRolls(255, 8, 0, 0), 0, 0);
        twiceIs(withRolls(255, 8, 1, 1), 1, 1);
        twiceIs(withRolls(255, 8, 128, 1), 128, 128);
        twiceIs(withRolls(255, 8, 255, 8), 255, 255);
        twiceIs(withRolls(1, 1, 2, 1, 4, 1, 8, 1, 16, 1, 32, 1), 0, 0);
        twiceIs(withRolls(1, 1, 2, 1, 4, 1, 8, 1, 16, 1, 1, 1), 1, 1);
        twiceIs(withRolls(7, 3, 14, 3, 28, 3), 14, 14);
        twiceIs(withRolls(3, 2, 3, 2, 3, 2), 3, 3);
    }

    private static void perhapsTwice() {
        due.sentence("Promise 32", "(1: those, too)");
        twiceIs(withRolls(1, 1, 1, 1, 2, 1), 1, 1);
        due.sentence("Promise 32", "read on one, and another roll has room for one more");
        twiceIs(withRolls(1, 1, 2, 2), 0, 1);
        twiceIs(withRolls(2, 2, 1, 1), 0, 1);
        twiceIs(withRolls(1, 1, 2, 1), 0, 0);
        twiceIs(withRolls(129, 2, 0, 1), 0, 129);
        twiceIs(withRolls(1, 2), 0, 0);
        twiceIs(withRolls(1, 2, 2, 1), 0, 2);
        due.sentence("Promise 32", "the room of the roll on which it is read is none for it");
        twiceIs(withRolls(1, 8, 0, 0), 0, 0);
        twiceIs(withRolls(1, 8, 2, 1), 0, 2);
        due.sentence("Promise 32", "read on none, and two have room");
        twiceIs(withRolls(0, 1), 0, 0);
        twiceIs(withRolls(0, 8), 0, 0);
        twiceIs(withRolls(0, 1, 0, 0), 0, 0);
        twiceIs(withRolls(0, 1, 0, 1), 0, 255);
        twiceIs(withRolls(1, 2, 2, 3), 0, 255);
        twiceIs(withRolls(1, 2, 2, 2, 4, 1), 0, 255);
        twiceIs(withRolls(1, 1, 2, 2, 4, 1), 0, 5);
        twiceIs(withRolls(0, 0, 0, 0, 0, 0, 0, 0, 0, 0, 0, 1), 0, 0);
        twiceIs(withRolls(0, 1, 0, 0, 0, 0, 0, 0, 0, 0, 0, 1), 0, 255);
    }

    private static void burnt() {
        due.sentence("Promise 33", "in how many ways all rolls could be filled: without rolls, without room");
        due.is("no rolls", withRolls().burnt(), 1);
        due.is("nothing to fill", withRolls(0, 0).burnt(), 1);
        due.is("all read", withRolls(255, 8).burnt(), 1);
        due.is("all read of seven", withRolls(127, 7).burnt(), 1);
        due.sentence("Promise 33", "with NAMES 0 to 7 (no NAME twice on one roll)");
        long[] ways = {1, 8, 28, 56, 70, 56, 28, 8, 1};
        for (int many = 0; many <= 8; many++) {
            due.is(many + " of 8", withRolls(0, many).burnt(), ways[many]);
        }
        due.is("the last one", withRolls(127, 8).burnt(), 1);
        due.is("1 of 7", withRolls(16, 2).burnt(), 7);
        due.is("7 of 7", withRolls(16, 8).burnt(), 1);
        due.is("2 of 4", withRolls(170, 6).burnt(), 6);
        due.sentence("Promise 33", "all rolls: more ways than an int can tell");
        due.is("5 rolls", withRolls(0, 4, 0, 4, 0, 4, 0, 4, 0, 4).burnt(), 1680700000L);
        due.is("6 rolls", withRolls(0, 4, 0, 4, 0, 4, 0, 4, 0, 4, 0, 4).burnt(), 117649000000L);
        due.is("one behind the other", withRolls(0, 1, 1, 2, 3, 4).burnt(), 8 * 7 * 15);
    }

    private static void yearsAre(StraitFleet x, int seed, int n, int byW, int byT, int taken) {
        due.is("by W in " + n + " from " + seed, x.years(0, seed, n, 0), byW);
        due.is("by T in " + n + " from " + seed, x.years(0, seed, n, 1), byT);
        due.is("taken in " + n + " from " + seed, x.years(0, seed, n, 2), taken);
    }

    private static String tideWith(int hour, int digit) {
        return "0".repeat(hour) + digit + "0".repeat(23 - hour);
    }

    private static void yearsByDraws() {
        due.sentence("Promise 34", "lost, if y by 24 (cut) left over by 10 is below the digit");
        // from 0 on y is 74, 5624, 28652, 51790: hours 2, 8, 20, 22; cut by 24 they end in 3, 4, 3, 7
        int[] hours = {2, 8, 20, 22};
        int[] ends = {3, 4, 3, 7};
        for (int year = 0; year < 4; year++) {
            for (int digit = 0; digit < 10; digit++) {
                StraitFleet x = Due.withTide(tideWith(hours[year], digit));
                x.ship(0, 10, 2, 50); // W 150, T 40
                int taken = ends[year] < digit ? 1 : 0;
                if (year > 0) {
                    yearsAre(x, 0, year, 0, 40 * year, 0);
                }
                yearsAre(x, 0, year + 1, 150 * taken, 40 * (year + 1), taken);
            }
        }
        due.sentence("Promise 34", "goes by W at hour y left over by 24: the hours beside it are not looked at");
        for (int year = 0; year < 4; year++) {
            StraitFleet x = Due.withTide("9".repeat(hours[year]) + "0" + "9".repeat(23 - hours[year]));
            x.ship(0, 10, 2, 50);
            due.is("year " + year, x.years(0, 0, year + 1, 2), year);
        }
        due.sentence("Promise 34", "hour y left over by 24, and then by how many digits there are");
        StraitFleet x = Due.withTide("5000000"); // hours 2, 8, 20, 22 are 2, 1, 6, 1 of seven
        x.ship(0, 10, 2, 50);
        yearsAre(x, 0, 4, 0, 160, 0);
        Due.text(x, "0000004").tide();
        yearsAre(x, 0, 4, 150, 160, 1);
        Due.text(x, "0800000").tide();
        yearsAre(x, 0, 4, 300, 160, 2);
        due.sentence("Promise 34", "y becomes (75 y and 74) left over by 65537");
        // from 873 on y is 12, 974, 7587: hours 12, 14, 3; they end in 0, 0, 6
        x = Due.withTide("000000000000101000000000");
        x.ship(0, 10, 2, 50);
        yearsAre(x, 873, 1, 150, 40, 1);
        yearsAre(x, 873, 2, 300, 80, 2);
        yearsAre(x, 873, 3, 300, 120, 2);
        due.is("from 872 on y is 65474, hour 2", x.years(0, 872, 1, 2), 0);
        Due.text(x, tideWith(2, 9)).tide(); // 65474 by 24, cut, is 2728
        due.is("from 872 on y is 65474, hour 2", x.years(0, 872, 1, 2), 1);
        Due.text(x, tideWith(2, 8)).tide();
        due.is("from 872 on y is 65474, hour 2", x.years(0, 872, 1, 2), 0);
    }

    private static int takenIn(int seed, int n, String tide) {
        long y = seed;
        int taken = 0;
        for (int year = 0; year < n; year++) {
            y = (75 * y + 74) % 65537;
            taken += y / 24 % 10 < tide.charAt((int) (y % 24 % tide.length())) - '0' ? 1 : 0;
        }
        return taken;
    }

    private static void yearsAtTheEnds() {
        due.sentence("Promise 34", "YEARS by a seed (0 to 9999) of n years (1 to 99)");
        String[] tides = {"0", "9", "5", "19", "123456789012345678901234"};
        int[] seeds = {0, 1, 873, 9998, 9999};
        int[] many = {1, 2, 98, 99};
        for (String tide : tides) {
            for (int seed : seeds) {
                for (int n : many) {
                    StraitFleet x = Due.withTide(tide);
                    x.ship(0, 30, 0, 999);
                    x.set(LIFE, 99);
                    x.set(TEETH, 9);
                    int taken = takenIn(seed, n, tide);
                    yearsAre(x, seed, n, 3969 * taken, 891 * n, taken);
                }
            }
        }
        due.sentence("Promise 34", "what would be by T: no man is left, CARGO too");
        StraitFleet x = Due.withTide("9");
        x.ship(0, 6, 0, 999);
        due.is("6 men", x.years(0, 0, 99, 1), 99 * 1059);
        x.ship(0, 7, 0, 999);
        due.is("7 men", x.years(0, 0, 99, 1), 99 * 60);
        x.ship(0, 1, 6, 999);
        due.is("straw", x.years(0, 0, 99, 1), 0);
        x.set(LIFE, 0);
        x.ship(0, 6, 0, 1);
        due.is("men who are worth nothing", x.years(0, 0, 99, 1), 99);
        due.is("men who are worth nothing, by W", x.years(0, 0, 2, 0), 2);
        due.sentence("Promise 34", "a SHIP (as it is now, anew each year); nothing is done");
        x = Due.withTide("9");
        x.set(SEED, 123);
        x.ship(0, 10, 0, 50);
        Due.text(x, "AT");
        yearsAre(x, 0, 3, 450, 180, 3);
        yearsAre(x, 0, 3, 450, 180, 3);
        due.is("x", x.told(9), 123);
        due.is("where", x.state(0, 0), 0);
        due.is("men", x.state(0, 1), 10);
        due.is("men lost", x.sum(0), 0);
        due.is("signs", x.told(0), 2);
        x.done(); // 4 men are left
        yearsAre(x, 0, 3, 270, 270, 3);
        x.ship(0, 6, 0, 50);
        Due.text(x, "AT").done();
        due.is("of a lost one, by W", x.years(0, 0, 3, 0), 0);
        due.is("of a lost one, by T", x.years(0, 0, 3, 1), 0);
    }

    private static void images() {
        due.sentence("Promise 35", "All but the PAD is kept in an IMAGE (0, 1): 1");
        StraitFleet x = new StraitFleet();
        due.is("image(0)", x.image(0), 1);
        due.is("image(1)", x.image(1), 1);
        due.is("image(0) again", x.image(0), 1);
        due.is("image(-1)", x.image(-1), OUTSIDE);
        due.is("image(2)", x.image(2), OUTSIDE);
        due.sentence("Promise 36", "STATE: it was not (kept), of each by itself");
        x = new StraitFleet();
        due.is("restore(0)", x.restore(0), STATE);
        due.is("restore(1)", x.restore(1), STATE);
        x.image(1);
        due.is("restore(0)", x.restore(0), STATE);
        due.is("restore(1)", x.restore(1), 1);
        due.is("restore(1) again", x.restore(1), 1);
        x.image(0);
        due.is("restore(0)", x.restore(0), 1);
        due.is("restore(-1)", x.restore(-1), OUTSIDE);
        due.is("restore(2)", x.restore(2), OUTSIDE);
        due.sentence("Promise 36", "It is as it was when it was kept, of each by itself, the last time");
        x = new StraitFleet();
        x.set(LIFE, 1);
        x.image(0);
        x.set(LIFE, 2);
        x.image(1);
        x.set(LIFE, 3);
        x.restore(0);
        due.is("by 0", x.told(3), 1);
        x.restore(1);
        due.is("by 1", x.told(3), 2);
        x.set(LIFE, 4);
        x.image(0);
        x.restore(1);
        due.is("by 1, again", x.told(3), 2);
        x.restore(0);
        due.is("by 0, kept anew", x.told(3), 4);
        x.set(LIFE, 5);
        x.restore(0);
        due.is("by 0, again", x.told(3), 4);
        due.sentence("Promise 35", "All but the PAD");
        x = new StraitFleet();
        Due.text(x, "5");
        x.image(0);
        Due.text(x, "123");
        x.restore(0);
        due.is("signs stay", x.told(0), 3);
        due.is("the same ones", x.tide(), 3);
        due.is("digit", x.told(102), 3);
        x.restore(0);
        due.is("signs stay away", x.told(0), 0);
        due.is("digits", x.told(10), 1);
        for (int i = 0; i < 60; i++) {
            x.say('.');
        }
        x.image(1);
        x.restore(0);
        due.is("still full", x.say('.'), FULL);
        x.wipe();
        x.restore(1);
        due.is("still empty", x.told(0), 0);
    }

    private static void whatAnImageKeeps() {
        due.sentence("Promise 36", "an IMAGE of an object that is new brings all back to the first");
        String fresh = Snapshot.of(new StraitFleet());
        for (int n = 0; n < 2; n++) {
            StraitFleet x = new StraitFleet();
            x.image(n);
            change(x);
            due.holds("changed", !Snapshot.of(x).equals(fresh));
            due.is("restore", x.restore(n), 1);
            due.holds("as at first", Snapshot.of(x).equals(fresh));
        }
        due.sentence("Promise 36", "an IMAGE of all that was there brings it back, one thing or another being otherwise");
        StraitFleet full = new StraitFleet();
        change(full);
        String whole = Snapshot.of(full);
        for (int thing = 0; thing < 19; thing++) {
            StraitFleet x = new StraitFleet();
            change(x);
            x.image(1);
            otherwise(x, thing);
            due.holds("otherwise: " + thing, !Snapshot.of(x).equals(whole));
            x.restore(1);
            due.holds("back: " + thing, Snapshot.of(x).equals(whole));
        }
    }

    private static void change(StraitFleet x) {
        for (int which = 0; which < 7; which++) {
            x.set(which, 2 + which);
        }
        x.set(SEED, 0);
        Due.text(x, "987").tide();
        x.ship(0, 9, 1, 100);
        x.ship(1, 1, 0, 200);
        x.ship(2, 9, 8, 300);
        x.ship(4, 9, 8, 400);
        Due.text(x, "ATBTCCEW").done();
        x.ship(3, 5, 4, 3);
        x.offer(1, 1, 50);
        x.offer(3, 2, 60);
        x.aboard(2, 7);
        x.aboard(5, 1);
        x.roll(3, 4);
        x.roll(6, 2);
        x.wipe();
    }

    private static void otherwise(StraitFleet x, int thing) {
        switch (thing) {
            case 0: x.ship(5, 1, 1, 1); break;
            case 1: x.scrap(0); break;
            case 2: x.ship(0, x.state(0, 1), x.state(0, 2), x.told(30)); break; // in the harbour again, else the same
            case 3: x.ship(3, 6, 4, 3); break;
            case 4: x.ship(3, 5, 3, 3); break;
            case 5: x.ship(3, 5, 4, 4); break;
            case 6: Due.text(x, "DC").done(); break;
            case 7: Due.text(x, "986").tide(); break;
            case 8: Due.text(x, "9").tide(); break;
            case 9: x.offer(1, 2, 50); break;
            case 10: x.aboard(5, 2); break;
            case 11: x.forget(); x.roll(3, 4); x.roll(6, 3); break;
            case 12: x.forget(); x.roll(5, 4); x.roll(6, 2); break;
            case 13: x.offer(1, 1, 51); break;
            case 14: x.noOffers(); break;
            case 15: x.ashore(2); break;
            case 16: x.roll(0, 0); break;
            case 17: x.set(TEETH, 9); break;
            default: x.set(SEED, 5);
        }
    }

    private static void told() {
        due.sentence("Promise 37", "0 signs: up to 60");
        StraitFleet x = new StraitFleet();
        due.is("none", x.told(0), 0);
        due.is("60", Due.text(x, "?".repeat(60)).told(0), 60);
        due.sentence("Promise 37", "1 SHIPS (bits), 11 OFFERS (bits), 12 NAMES aboard (bits)");
        for (int i = 0; i < 8; i++) {
            x = new StraitFleet();
            x.ship(i, 1, 0, 0);
            x.offer(i, 0, 0);
            x.aboard(i, 0);
            due.is("ships", x.told(1), i < 6 ? 1 << i : 0);
            due.is("offers", x.told(11), i < 4 ? 1 << i : 0);
            due.is("names", x.told(12), 1 << i);
        }
        due.sentence("Promise 37", "10 digits of THE TIDE, 13 ROLLS");
        x = new StraitFleet();
        due.is("one digit at first", x.told(10), 1);
        due.is("no rolls at first", x.told(13), 0);
        due.is("24 digits", Due.withTide("5".repeat(24)).told(10), 24);
        due.sentence("Promise 37", "20 on DRAWN of NAMES aboard");
        for (int name = 0; name < 8; name++) {
            x.aboard(name, 9 - name);
        }
        for (int name = 0; name < 8; name++) {
            due.is("drawn of " + name, x.told(20 + name), 9 - name);
        }
        due.is("19", x.told(19), OUTSIDE);
        due.is("28", x.told(28), OUTSIDE);
        x.ashore(0);
        due.is("ashore", x.told(20), OUTSIDE);
        due.sentence("Promise 37", "30 on CARGO of SHIPS");
        for (int ship = 0; ship < 6; ship++) {
            x.ship(ship, 1, 0, 999 - ship);
        }
        for (int ship = 0; ship < 6; ship++) {
            due.is("cargo of " + ship, x.told(30 + ship), 999 - ship);
        }
        due.is("29", x.told(29), OUTSIDE);
        due.is("36", x.told(36), OUTSIDE);
        Due.text(x, "FTEC").done();
        due.is("cargo of a lost one", x.told(35), 0);
        due.is("cargo of one that is through", x.told(34), 995);
        due.sentence("Promise 37", "100 and an hour (0 to 23): its digit");
        Due.text(x, "70123").tide();
        due.is("99", x.told(99), OUTSIDE);
        due.is("100", x.told(100), 7);
        due.is("104", x.told(104), 3);
        due.is("105", x.told(105), 7);
        due.is("123", x.told(123), 2);
        due.is("124", x.told(124), OUTSIDE);
        due.sentence("Promise 37", "OUTSIDE");
        due.is("-1", x.told(-1), OUTSIDE);
        due.is("14", x.told(14), OUTSIDE);
    }
}
