/** Each sentence of the document on fleets, captains and insurers that names a boundary: promises 18 to 25. */
public final class FleetEdgesTest {
    private static final int UNKNOWN = -1, OUTSIDE = -2, NONE = -6;
    private static final int T = 0, W = 1, C = 2;
    private static final int TEETH = 0, LIFE = 1, PAY = 2, DAYS = 3, HULL = 5, HEAD = 6, SEED = 7;
    private static final Due due = new Due("FleetEdgesTest");

    public static void main(String[] args) {
        boundToTheNumber();
        boundOfSeveral();
        boundInTheHarbour();
        lines();
        lineOfSix();
        convoys();
        captains();
        captainsOfLostShips();
        persuaded();
        offers();
        whichOffers();
        insuredWorst();
        due.close();
    }

    /** Of each ship T is 600 and 60, C is far more; W is by its cargo. */
    private static StraitFleet fleet(String tide, int... cargos) {
        StraitFleet x = Due.withTide(tide);
        x.set(PAY, 20);
        x.set(DAYS, 60);
        for (int ship = 0; ship < cargos.length; ship++) {
            x.ship(ship, 10, 0, cargos[ship]);
        }
        return x;
    }

    private static void boundIs(StraitFleet x, int hour, int worst, int mean, int... sides) {
        due.is("mean within " + worst, x.bound(hour, worst, -1), mean);
        for (int ship = 0; ship < sides.length; ship++) {
            due.is("side of " + ship + " within " + worst, x.bound(hour, worst, ship), sides[ship]);
        }
    }

    private static void boundToTheNumber() {
        due.sentence("Promise 18", "the least MEAN by which WORST is no more than told");
        StraitFleet x = fleet("1", 0, 50); // W: 100 and 100, 150 and 150
        boundIs(x, 0, 120, 1200, T, T);
        boundIs(x, 0, 121, 1200, T, T);
        boundIs(x, 0, 159, 1200, T, T);
        boundIs(x, 0, 160, 700, W, T);
        boundIs(x, 0, 161, 700, W, T);
        boundIs(x, 0, 249, 700, W, T);
        boundIs(x, 0, 250, 250, W, W);
        boundIs(x, 0, 251, 250, W, W);
        boundIs(x, 999, 99999, 250, W, W);
        due.sentence("Promise 18", "NONE: there is none");
        boundIs(x, 0, 119, NONE, NONE, NONE);
        boundIs(x, 0, 0, NONE, NONE, NONE);
        due.sentence("Promise 18", "WORST 0 to 99999: none at all is told, and none can be lost");
        x = fleet("01", 0, 999, 5);
        boundIs(x, 0, 0, 0, W, W, W);
        boundIs(x, 998, 0, 0, W, W, W);
        boundIs(x, 999, 0, NONE, NONE, NONE, NONE);
        x = fleet("9", 999);
        x.ship(0, 30, 9, 999);
        boundIs(x, 0, 0, 0, T);
        x.ship(0, 30, 0, 999);
        x.set(PAY, 0);
        boundIs(x, 0, 0, 0, C);
    }

    private static void boundOfSeveral() {
        due.sentence("Promise 18", "the SIDE of a SHIP by it (of several: the first by SHIPS and SIDES)");
        StraitFleet x = fleet("1", 0, 0, 0); // 60 by T, 100 by W: each one by W is 500 less and 40 more
        boundIs(x, 0, 180, 1800, T, T, T);
        boundIs(x, 0, 219, 1800, T, T, T);
        boundIs(x, 0, 220, 1300, T, T, W);
        boundIs(x, 0, 259, 1300, T, T, W);
        boundIs(x, 0, 260, 800, T, W, W);
        boundIs(x, 0, 300, 300, W, W, W);
        x = fleet("1", 0, 0, 0, 0, 0, 0);
        boundIs(x, 0, 400, 3100, T, T, T, T, T, W);
        boundIs(x, 0, 480, 2100, T, T, T, W, W, W);
        boundIs(x, 0, 560, 1100, T, W, W, W, W, W);
        due.sentence("Promise 18", "of several: by SIDES, the WORST being no matter as long as it is no more than told");
        x = fleet("5", 0); // T 600 and 60, W 500 and 100, C 500 and 50
        x.set(PAY, 1);
        x.set(DAYS, 5);
        boundIs(x, 0, 100, 500, W);
        boundIs(x, 0, 99, 500, C);
        boundIs(x, 0, 50, 500, C);
        boundIs(x, 0, 49, NONE, NONE);
        x.set(DAYS, 6); // C 600 and 60
        boundIs(x, 0, 99, 600, T);
        boundIs(x, 0, 60, 600, T);
        x = fleet("6", 0); // T 600 and 60, W 600 and 100
        boundIs(x, 0, 99999, 600, T);
    }

    private static void boundInTheHarbour() {
        due.sentence("Terms", "FLEETS: all SHIPS in the harbour");
        StraitFleet x = new StraitFleet();
        boundIs(x, 0, 0, 0);
        boundIs(x, 999, 99999, 0);
        due.is("no ship", x.bound(0, 99999, 0), UNKNOWN);
        x = fleet("1", 0, 50, 100);
        x.ship(3, 6, 0, 7);
        Due.text(x, "BCDT").done();
        boundIs(x, 0, 300, 300, W, UNKNOWN, W, UNKNOWN, UNKNOWN, UNKNOWN);
        boundIs(x, 0, 299, 700, W, UNKNOWN, T, UNKNOWN);
        due.is("pairs", x.line(0, -1, 0), 3);
        due.is("convoy", x.convoy(0, 1), 300);
        x.ship(1, 10, 0, 50);
        boundIs(x, 0, 450, 450, W, W, W, UNKNOWN);
        x.scrap(0);
        x.scrap(1);
        boundIs(x, 0, 200, 200, UNKNOWN, UNKNOWN, W);
        x.scrap(2);
        boundIs(x, 0, 0, 0, UNKNOWN, UNKNOWN, UNKNOWN, UNKNOWN);
        due.is("pairs without ships in the harbour", x.line(0, -1, 0), 1);
        due.is("convoy without ships in the harbour", x.convoy(0, 0), T);
        due.is("convoy without ships in the harbour", x.convoy(0, 1), 0);
        due.sentence("Promise 18", "the MEAN (ship = -1)");
        x = fleet("1", 0);
        due.is("-1", x.bound(0, 100, -1), 100);
        due.is("-2", x.bound(0, 100, -2), UNKNOWN);
        due.is("0", x.bound(0, 100, 0), W);
        due.is("1", x.bound(0, 100, 1), UNKNOWN);
    }

    private static void lineIs(StraitFleet x, int hour, int... pairs) {
        int length = pairs.length / 2;
        due.is("how many, what = 0", x.line(hour, -1, 0), length);
        due.is("how many, what = 1", x.line(hour, -1, 1), length);
        for (int i = 0; i < length; i++) {
            due.is("mean " + i, x.line(hour, i, 0), pairs[2 * i]);
            due.is("worst " + i, x.line(hour, i, 1), pairs[2 * i + 1]);
        }
        int[] beyond = {length, length + 1, 728, 729, 730, 1 << 20, Integer.MAX_VALUE};
        for (int i : beyond) {
            due.is("mean " + i, x.line(hour, i, 0), NONE);
            due.is("worst " + i, x.line(hour, i, 1), NONE);
        }
    }

    private static void lines() {
        due.sentence("Promise 19", "how many (i = -1), the i-th MEAN (what = 0), WORST (1); NONE");
        StraitFleet x = new StraitFleet();
        lineIs(x, 0, 0, 0);
        lineIs(x, 999, 0, 0);
        x = fleet("10", 0, 50);
        lineIs(x, 0, 250, 250, 700, 160, 1200, 120);
        lineIs(x, 998, 250, 250, 700, 160, 1200, 120);
        lineIs(x, 1, 0, 0);
        lineIs(x, 999, 0, 0);
        due.is("i = -2", x.line(0, -2, 0), OUTSIDE);
        due.sentence("Promise 19", "choices by which no other one has as little MEAN and less WORST");
        x = fleet("5", 0); // W 500 and 100, C 500 and 50, T 600 and 60
        x.set(PAY, 1);
        x.set(DAYS, 5);
        lineIs(x, 0, 500, 50);
        x.set(DAYS, 6); // C 600 and 60, as T
        lineIs(x, 0, 500, 100, 600, 60);
        x.set(DAYS, 7); // C 700 and 70
        lineIs(x, 0, 500, 100, 600, 60);
        x = fleet("6", 0); // T 600 and 60, W 600 and 100
        lineIs(x, 0, 600, 60);
        due.sentence("Promise 19", "or as little WORST and less MEAN");
        x = fleet("5"); // T and W take all: 600 and 60, 300 and 60
        x.ship(0, 6, 0, 0);
        lineIs(x, 0, 300, 60);
        x.set(PAY, 1);
        x.set(DAYS, 10); // C 600 and 60
        lineIs(x, 0, 300, 60);
        x.set(DAYS, 9); // C 540 and 54
        lineIs(x, 0, 300, 60, 540, 54);
        due.sentence("Promise 19", "how many pairs of MEAN and WORST: pairs that are alike are one");
        x = fleet("1", 0, 0, 0);
        lineIs(x, 0, 300, 300, 800, 260, 1300, 220, 1800, 180);
    }

    private static void lineOfSix() {
        due.sentence("Promise 19", "the i-th (from the least MEAN on): six ships");
        StraitFleet x = fleet("1", 0, 1, 2, 4, 8, 16);
        lineIs(x, 0, 631, 631, 1115, 575, 1607, 527, 2103, 483, 2601, 441, 3100, 400, 3600, 360);
        x = fleet("0", 999, 999, 999, 999, 999, 999);
        lineIs(x, 0, 0, 0);
        due.sentence("Promises 18, 19", "each by a SIDE: six ships by the last one");
        x = fleet("5", 0, 1, 2, 4, 8, 16); // C 500 and 50 each, W 500 and 100 on, T 600 and 60
        x.set(PAY, 1);
        x.set(DAYS, 5);
        x.ship(0, 10, 0, 1);
        lineIs(x, 0, 3000, 300);
        boundIs(x, 0, 99999, 3000, C, C, C, C, C, C);
        boundIs(x, 0, 300, 3000, C, C, C, C, C, C);
        boundIs(x, 0, 299, NONE, NONE, NONE, NONE, NONE, NONE, NONE);
        due.sentence("Promise 19", "each by a SIDE: W or C on the line");
        x = fleet("2", 0, 50, 100); // W 200 and 100, 300 and 150, 400 and 200; C 500 and 50 each
        x.set(PAY, 1);
        x.set(DAYS, 5);
        lineIs(x, 0, 900, 450, 1000, 300, 1200, 200, 1500, 150);
        boundIs(x, 0, 449, 1000, W, W, C);
        boundIs(x, 0, 299, 1200, W, C, C);
        boundIs(x, 0, 199, 1500, C, C, C);
        due.sentence("Promise 19", "the worst that six ships can be told");
        // T 18900 and 1890 each, W by 9 tenths 17010 and 1890, C 108000 and 10800
        x = fleet("9");
        x.set(TEETH, 9);
        x.set(LIFE, 99);
        for (int ship = 0; ship < 6; ship++) {
            x.ship(ship, 9, 0, 999);
        }
        lineIs(x, 0, 102060, 11340);
        boundIs(x, 0, 11340, 102060, W, W, W, W, W, W);
        boundIs(x, 0, 11339, NONE, NONE, NONE, NONE, NONE, NONE, NONE);
        due.is("convoy", x.convoy(0, 1), 102060);
    }

    private static void convoyIs(StraitFleet x, int hour, int side, int mean) {
        due.is("the side at " + hour, x.convoy(hour, 0), side);
        due.is("the mean at " + hour, x.convoy(hour, 1), mean);
    }

    private static void convoys() {
        due.sentence("Promise 20", "all by one SIDE: that of the least MEAN, the first; it");
        StraitFleet x = new StraitFleet();
        convoyIs(x, 0, T, 0);
        convoyIs(x, 999, T, 0);
        x = fleet("560", 0, 40); // T 1200; W 5: 500 and 700, W 6: 600 and 840
        convoyIs(x, 0, T, 1200);
        x.ship(1, 10, 0, 39);
        convoyIs(x, 0, W, 1195);
        x.ship(1, 10, 0, 41);
        convoyIs(x, 0, T, 1200);
        convoyIs(x, 2, W, 0);
        convoyIs(x, 998, W, 0);
        convoyIs(x, 999, T, 1200);
        x.set(PAY, 1);
        x.set(DAYS, 6); // C 1200
        convoyIs(x, 1, T, 1200);
        x.set(DAYS, 5); // C 1000
        convoyIs(x, 1, C, 1000);
        x.ship(1, 10, 0, 0); // W 5: 1000
        convoyIs(x, 0, W, 1000);
        x.ship(1, 10, 0, 1);
        convoyIs(x, 0, C, 1000);
        x.set(PAY, 0);
        convoyIs(x, 2, W, 0);
        due.sentence("Promise 20", "one SIDE for all, though each one alone would choose another");
        x = fleet("3", 0, 600); // T 600 each; W 300 and 2100
        due.is("A alone", x.choice(0, 0), W);
        due.is("B alone", x.choice(1, 0), T);
        convoyIs(x, 0, T, 1200);
    }

    private static void captains() {
        due.sentence("Promise 21", "the SIDE of the most in the mean, the first");
        StraitFleet x = fleet("01", 0);
        x.set(HEAD, 1);
        x.set(DAYS, 6); // T 540, W 600 or 540, C 540
        due.is("W is more", x.captain(0, 0), W);
        due.is("all alike", x.captain(0, 1), T);
        x.set(DAYS, 5); // C 550
        due.is("C is more", x.captain(0, 1), C);
        x.set(DAYS, 0); // C 600
        due.is("W and C alike", x.captain(0, 0), W);
        due.is("C alone", x.captain(0, 999), C);
        due.sentence("Promise 21", "gets HULL, if it is not lost, and HEAD for each man who comes through");
        x = fleet("9"); // 10 HULL by T, HULL by W, less than that by C
        x.set(HULL, 1);
        x.ship(0, 7, 0, 0);
        due.is("a man is left by T", x.captain(0, 0), T);
        x.ship(0, 6, 0, 0);
        due.is("no man is left by T", x.captain(0, 0), W);
        x.ship(0, 5, 1, 0);
        due.is("no man is left behind the straw", x.captain(0, 0), W);
        x.ship(0, 6, 1, 0);
        due.is("a man is left behind the straw", x.captain(0, 0), T);
        x.set(HULL, 0);
        x.ship(0, 6, 0, 0);
        due.is("nothing by T, nothing by W", x.captain(0, 0), T);
        x.set(HEAD, 1);
        due.is("nothing by T, 6 tenths by W", x.captain(0, 0), W);
        x.set(HULL, 99);
        x.set(HEAD, 99);
        x.ship(0, 30, 0, 0);
        x.set(DAYS, 60); // T 99 and 24 men, W a tenth of all, C less by 60
        due.is("C for six more men", x.captain(0, 0), C);
        due.sentence("Promise 21", "round the cape it is less by DAYS");
        x = fleet("9");
        x.set(HULL, 60);
        x.set(DAYS, 60);
        x.ship(0, 6, 0, 0); // T 0, W 60 tenths, C 0
        due.is("less by all", x.captain(0, 0), W);
        x.set(DAYS, 53); // C 70 tenths
        due.is("less by 53", x.captain(0, 0), C);
        x.set(DAYS, 54); // C 60 tenths
        due.is("less by 54", x.captain(0, 0), W);
        x.set(HULL, 0);
        x.set(DAYS, 1); // T 0, W 0, C below 0
        due.is("below nothing", x.captain(0, 0), T);
        x.set(DAYS, 0);
        due.is("nothing by any", x.captain(0, 0), T);
    }

    private static void captainsOfLostShips() {
        due.sentence("Promise 21", "(of a SHIP that is lost already: nothing, less by DAYS round the cape)");
        String[] ways = {"AT", "AW"};
        for (String way : ways) {
            StraitFleet x = fleet("90");
            x.set(SEED, 0);
            x.ship(0, 6, 0, 5);
            Due.text(x, way).done();
            x.set(HULL, 99);
            x.set(HEAD, 99);
            due.is("lost", x.state(0, 0), 2);
            for (int days = 0; days <= 60; days += 30) {
                x.set(DAYS, days);
                due.is("less by " + days, x.captain(0, 0), T);
                due.is("less by " + days, x.captain(0, 1), T);
                due.is("persuaded, less by " + days, x.persuaded(0, 0), 0);
            }
        }
        due.sentence("Promise 21", "of a SHIP that is through: as it is now");
        StraitFleet x = fleet("9", 0);
        x.set(DAYS, 0);
        x.set(HEAD, 1);
        Due.text(x, "AT").done(); // 4 men are left, all of whom the teeth would take: T 0, W 54 tenths, C 540
        due.is("through", x.captain(0, 0), C);
    }

    private static void persuaded() {
        due.sentence("Promise 22", "the least HEAD (0 to 99) by which he takes the owner's CHOICE: 0");
        StraitFleet x = fleet("9", 0);
        due.is("T for both", x.persuaded(0, 0), 0);
        due.sentence("Promise 22", "the least HEAD (0 to 99) by which he takes the owner's CHOICE: 1 to 98");
        for (int days = 0; days <= 60; days++) {
            x = fleet("9");
            x.set(PAY, 0);
            x.set(TEETH, 1);
            x.set(DAYS, days);
            x.ship(0, 2, 0, 0); // owners C; captains C, if HEAD for one man more is above DAYS
            due.is("by DAYS " + days, x.persuaded(0, 0), days + 1);
        }
        due.sentence("Promise 22", "the least HEAD (0 to 99) by which he takes the owner's CHOICE: 99, and NONE");
        x = fleet("1");
        x.set(PAY, 0);
        x.set(DAYS, 60);
        x.ship(0, 6, 0, 0); // owners C; captains C, if HULL and 6 HEAD are above 600
        int[] hulls = {13, 12, 7, 6, 5, 0};
        int[] wants = {98, 99, 99, NONE, NONE, NONE};
        for (int i = 0; i < hulls.length; i++) {
            x.set(HULL, hulls[i]);
            due.is("by HULL " + hulls[i], x.persuaded(0, 0), wants[i]);
        }
        due.sentence("Promise 22", "whatever HEAD is now, and it stays");
        for (int head = 0; head <= 99; head += 33) {
            x.set(HEAD, head);
            x.set(HULL, 7);
            due.is("by HEAD " + head, x.persuaded(0, 999), 99);
            due.is("HEAD", x.told(8), head);
        }
        due.sentence("Promise 22", "NONE: more HEAD does not help, if he never takes it");
        x = fleet("9");
        x.set(LIFE, 0);
        x.ship(0, 6, 0, 0); // owners: T 0, W 0; captains get nothing by T
        due.is("never", x.persuaded(0, 0), NONE);
        x.set(HULL, 0);
        x.set(DAYS, 60); // captains by HEAD 0: nothing by T, nothing by W
        due.is("by nothing", x.persuaded(0, 0), 0);
    }

    private static void offers() {
        due.sentence("Promise 23", "OFFERS 0 to 3, some of which there are (none at first)");
        StraitFleet x = new StraitFleet();
        due.is("none", x.told(11), 0);
        int[] order = {3, 0, 2, 1};
        int bits = 0;
        for (int i = 0; i < 4; i++) {
            bits |= 1 << order[i];
            due.is("one more", x.offer(order[i], 0, 0), i + 1);
            due.is("bits", x.told(11), bits);
            due.is("otherwise", x.offer(order[i], 999, 9999), i + 1);
            due.is("bits", x.told(11), bits);
        }
        due.is("too small", x.offer(-1, 0, 0), OUTSIDE);
        due.is("too large", x.offer(4, 0, 0), OUTSIDE);
        due.sentence("Promise 24", "OFFERS go: how many there were");
        due.is("four", x.noOffers(), 4);
        due.is("none", x.noOffers(), 0);
        due.is("bits", x.told(11), 0);
        due.is("one again", x.offer(2, 1, 1), 1);
        due.is("bits", x.told(11), 4);
        due.is("one", x.noOffers(), 1);
        due.is("a new one", new StraitFleet().noOffers(), 0);
        due.sentence("Promise 24", "OFFERS that went are not reckoned");
        x = fleet("9", 0);
        x.offer(0, 0, 9999);
        x.offer(1, 0, 9999);
        due.is("both", x.insured(0, 0, 1), 3);
        x.noOffers();
        due.is("none", x.insured(0, 0, 1), 0);
        due.is("mean", x.insured(0, 0, 0), 1000900);
        x.offer(1, 1, 10);
        due.is("the second anew", x.insured(0, 0, 1), 2);
    }

    private static void insuredIs(StraitFleet x, int mean, int set, int worst) {
        due.is("mean", x.insured(0, 0, 0), mean);
        due.is("set", x.insured(0, 0, 1), set);
        due.is("worst", x.insured(0, 0, 2), worst);
    }

    private static void whichOffers() {
        due.sentence("Promise 25", "INSURED without OFFERS");
        StraitFleet x = fleet("5", 0);
        insuredIs(x, 1000500, 0, 100);
        due.sentence("Promise 25", "is least; the first as bits rising: what is worth its PREMIUM to the tenth is left");
        x.offer(0, 30, 60);
        insuredIs(x, 1000500, 0, 100);
        x.offer(0, 29, 60);
        insuredIs(x, 1000490, 1, 69);
        x.offer(0, 30, 61);
        insuredIs(x, 1000495, 1, 69);
        x.offer(0, 31, 61);
        insuredIs(x, 1000500, 0, 100);
        x.offer(0, 0, 0);
        insuredIs(x, 1000500, 0, 100);
        x.offer(0, 0, 1);
        insuredIs(x, 1000495, 1, 99);
        due.sentence("Promise 25", "the set of OFFERS: each of the 16");
        for (int set = 0; set < 16; set++) {
            x = fleet("5", 0);
            for (int offer = 0; offer < 4; offer++) {
                x.offer(offer, 1, (set >> offer & 1) == 1 ? 4 : 2);
            }
            int many = Integer.bitCount(set);
            insuredIs(x, 1000500 - 10 * many, set, 100 - 3 * many);
        }
        due.sentence("Promise 25", "(tenths; it may be below 0)");
        x = fleet("9");
        x.set(LIFE, 0);
        x.ship(0, 1, 0, 0);
        for (int offer = 0; offer < 4; offer++) {
            x.offer(offer, 0, 9999);
        }
        insuredIs(x, 640036, 15, 0);
        x.ship(0, 1, 0, 999);
        insuredIs(x, 649027, 15, 0);
        x.set(LIFE, 99);
        x.ship(0, 30, 9, 999);
        x.noOffers();
        insuredIs(x, 1035721, 0, 3969);
        due.sentence("Promise 25", "by W: the digit 0, by which nothing is lost and nothing got");
        x = fleet("0", 0);
        for (int offer = 0; offer < 4; offer++) {
            x.offer(offer, 0, 9999);
        }
        insuredIs(x, 1000000, 0, 0);
    }

    private static void insuredWorst() {
        due.sentence("Promise 25", "the WORST by it (lost or not, PREMIUMS and what is got reckoned; 0 at least)");
        StraitFleet x = fleet("5", 0); // 100 in all
        x.offer(0, 10, 99);
        insuredIs(x, 1000105, 1, 11);
        x.offer(0, 10, 100);
        insuredIs(x, 1000100, 1, 10);
        x.offer(0, 10, 101);
        insuredIs(x, 1000095, 1, 10);
        x.offer(0, 0, 101);
        insuredIs(x, 999995, 1, 0);
        x.offer(0, 999, 9999);
        insuredIs(x, 960495, 1, 999);
        for (int offer = 0; offer < 4; offer++) {
            x.offer(offer, 999, 9999);
        }
        insuredIs(x, 840480, 15, 3996);
        due.sentence("Promise 25", "the WORST by it: all can be lost, if the digit is above 0");
        x = fleet("1", 0);
        insuredIs(x, 1000100, 0, 100);
        x.offer(3, 1, 11);
        insuredIs(x, 1000099, 8, 90);
        due.sentence("Promise 25", "INSURED of a SHIP that is through, as it is now");
        x = fleet("5", 0);
        Due.text(x, "AT").done();
        insuredIs(x, 1000200, 0, 40);
        due.sentence("Promise 25", "INSURED of the last hour");
        x = fleet("09", 0);
        due.is("hour 998", x.insured(0, 998, 0), 1000000);
        due.is("hour 999", x.insured(0, 999, 0), 1000900);
        due.is("hour 998", x.insured(0, 998, 2), 0);
        due.is("hour 999", x.insured(0, 999, 2), 100);
    }
}
