/** Promises 18 to 25: fleets, captains, insurers. */
public final class FleetsTest {
    private static final int UNKNOWN = -1, OUTSIDE = -2, NONE = -6;
    private static final Due due = new Due("FleetsTest");

    public static void main(String[] args) {
        bounds();
        boundOfSeveral();
        lines();
        convoys();
        onlyShipsInTheHarbour();
        captains();
        persuaded();
        offers();
        insured();
        refusals();
        due.close();
    }

    /** By 2 tenths A has T 600/60, W 400/200, C 2000/200; D has T 300/30, W 60/30, C 600/60 (mean/worst). */
    private static StraitFleet twoShips() {
        StraitFleet x = Due.withTide("20");
        x.ship(0, 10, 0, 100);
        x.ship(3, 3, 0, 0);
        return x;
    }

    private static void bounds() {
        StraitFleet x = twoShips();
        boundIs(x, 89, NONE, NONE, NONE);
        boundIs(x, 90, 660, 0, 1);
        boundIs(x, 229, 660, 0, 1);
        boundIs(x, 230, 460, 1, 1);
        boundIs(x, 99999, 460, 1, 1);
        boundIs(x, 0, NONE, NONE, NONE);
        due.is("18: by the digit 0", x.bound(1, 0, -1), 0);
        due.is("18: by the digit 0", x.bound(1, 0, 0), 1);
        StraitFleet none = new StraitFleet();
        due.is("18: without ships", none.bound(0, 0, -1), 0);
        due.is("18: without ships", none.bound(0, 0, 2), UNKNOWN);
    }

    private static void boundIs(StraitFleet x, int worst, int mean, int sideOfA, int sideOfD) {
        due.is("18: mean within " + worst, x.bound(0, worst, -1), mean);
        due.is("18: A within " + worst, x.bound(0, worst, 0), sideOfA);
        due.is("18: D within " + worst, x.bound(0, worst, 3), sideOfD);
    }

    private static void boundOfSeveral() {
        // both alike: T 600/60, W 300/150; one of them by W, and the first by ships and sides sends A by T
        StraitFleet x = Due.withTide("2");
        x.ship(1, 10, 0, 50);
        x.ship(4, 10, 0, 50);
        due.is("18: one by W", x.bound(0, 210, -1), 900);
        due.is("18: the first by ships", x.bound(0, 210, 1), 0);
        due.is("18: the first by ships", x.bound(0, 210, 4), 1);
        due.is("18: both by W", x.bound(0, 300, 1), 1);
        x.set(2, 0);
        x.ship(1, 10, 6, 50);
        due.is("18: T and C alike", x.bound(0, 0, 1), 0);
        due.is("18: C alone", x.bound(0, 0, 4), 2);
        x.set(2, 1);
        x.set(3, 1);
        for (int ship = 0; ship < 6; ship++) {
            x.ship(ship, 10, 0, 50 + ship);
        }
        due.is("18: all six by C", x.bound(0, 60, -1), 600);
        due.is("18: all six by C, and no less", x.bound(0, 59, -1), NONE);
        for (int ship = 0; ship < 6; ship++) {
            due.is("18: each by C", x.bound(0, 99999, ship), 2);
        }
    }

    private static void lines() {
        StraitFleet x = twoShips();
        due.is("19: how many", x.line(0, -1, 0), 2);
        due.is("19: how many, what = 1", x.line(0, -1, 1), 2);
        lineIs(x, 0, 0, 460, 230);
        lineIs(x, 0, 1, 660, 90);
        lineIs(x, 0, 2, NONE, NONE);
        lineIs(x, 0, Integer.MAX_VALUE, NONE, NONE);
        lineIs(x, 1, 0, 0, 0);
        lineIs(x, 1, 1, NONE, NONE);
        StraitFleet none = new StraitFleet();
        due.is("19: without ships", none.line(0, -1, 0), 1);
        lineIs(none, 0, 0, 0, 0);
        // pairs that are alike count once: none, one or both by W
        StraitFleet alike = Due.withTide("2");
        alike.ship(1, 10, 0, 50);
        alike.ship(4, 10, 0, 50);
        due.is("19: alike", alike.line(0, -1, 0), 3);
        lineIs(alike, 0, 0, 600, 300);
        lineIs(alike, 0, 1, 900, 210);
        lineIs(alike, 0, 2, 1200, 120);
    }

    private static void lineIs(StraitFleet x, int hour, int i, int mean, int worst) {
        due.is("19: mean " + i, x.line(hour, i, 0), mean);
        due.is("19: worst " + i, x.line(hour, i, 1), worst);
    }

    private static void convoys() {
        StraitFleet x = twoShips();
        due.is("20: side", x.convoy(0, 0), 1);
        due.is("20: mean", x.convoy(0, 1), 460);
        Due.text(x, "4").tide(); // W 800 and 120, T 600 and 300
        due.is("20: side", x.convoy(0, 0), 0);
        due.is("20: mean", x.convoy(0, 1), 900);
        x.set(3, 3); // C 300 and 90
        due.is("20: side", x.convoy(999, 0), 2);
        due.is("20: mean", x.convoy(999, 1), 390);
        x.set(3, 0);
        Due.text(x, "0").tide();
        due.is("20: W and C alike", x.convoy(0, 0), 1);
        due.is("20: without ships", new StraitFleet().convoy(0, 0), 0);
        due.is("20: without ships", new StraitFleet().convoy(0, 1), 0);
    }

    private static void onlyShipsInTheHarbour() {
        StraitFleet x = twoShips();
        x.ship(5, 30, 0, 999);
        Due.text(x, "FC").done();
        boundIs(x, 90, 660, 0, 1);
        due.is("18: through", x.bound(0, 90, 5), UNKNOWN);
        due.is("19: how many", x.line(0, -1, 0), 2);
        due.is("20: mean", x.convoy(0, 1), 460);
        x.scrap(0);
        due.is("18: D alone", x.bound(0, 30, -1), 60);
        due.is("18: scrapped", x.bound(0, 30, 0), UNKNOWN);
        due.is("20: D alone", x.convoy(0, 1), 60);
    }

    private static void captains() {
        StraitFleet x = Due.withTide("04");
        x.ship(0, 10, 0, 0);
        due.is("21: T 500, W 500, C 300", x.captain(0, 0), 0);
        x.set(6, 1); // T 540, W 600, C 400
        due.is("21: W at a still hour", x.captain(0, 0), 1);
        due.is("21: T 540, W 360, C 400", x.captain(0, 1), 0);
        x.set(6, 4); // T 660, W 540, C 700
        due.is("21: C", x.captain(0, 1), 2);
        x.ship(0, 6, 0, 0);
        due.is("21: no man left by T", x.captain(0, 1), 2);
        x.set(3, 60);
        x.set(6, 0); // T 0, W 300, C -100
        due.is("21: W", x.captain(0, 1), 1);
        x.ship(0, 10, 9, 0);
        x.set(6, 5);
        x.set(3, 0);
        due.is("21: T and C alike", x.captain(0, 1), 0);
        x.ship(0, 3, 0, 0);
        due.is("21: W and C alike", x.captain(0, 0), 1);
        x.set(3, 60);
        Due.text(x, "AT").done();
        due.is("21: lost already", x.captain(0, 0), 0);
        x.set(3, 0);
        due.is("21: lost already", x.captain(0, 1), 0);
        x.ship(0, 10, 0, 0);
        x.set(6, 1);
        Due.text(x, "AC").done();
        due.is("21: through already", x.captain(0, 0), 1);
        StraitFleet y = Due.withTide("1");
        y.set(3, 60);
        y.set(5, 1);
        y.ship(0, 6, 0, 0);
        due.is("21: T 0, W 9 tenths, C below 0", y.captain(0, 0), 1);
        y.set(5, 0);
        due.is("21: T and W alike", y.captain(0, 0), 0);
    }

    private static void persuaded() {
        StraitFleet x = Due.withTide("05");
        x.ship(0, 10, 0, 100);
        due.is("22: W, T and W alike by 0", x.persuaded(0, 0), 1);
        due.is("22: T", x.persuaded(0, 1), 0);
        x.set(6, 99);
        due.is("22: whatever HEAD is", x.persuaded(0, 0), 1);
        due.is("22: HEAD is as it was", x.told(8), 99);
        // owners: T 600, W 1000, C 500; captains: T 500 and 40 HEAD, W 250 and 50 HEAD, C 450 and 100 HEAD
        x.set(2, 1);
        x.set(3, 5);
        due.is("22: C as soon as 60 HEAD are above 50", x.persuaded(0, 1), 1);
        x.set(2, 0);
        x.set(3, 60);
        due.is("22: C as soon as 60 HEAD are above 600", x.persuaded(0, 1), 11);
        // owners: all alike, T first; captains: T takes every man, so never
        x.set(2, 20);
        x.set(3, 0);
        x.set(1, 0);
        x.ship(1, 5, 0, 0);
        due.is("22: never", x.persuaded(1, 1), NONE);
        // owners: C 0; captains: C brings one man more than T through, and is less by 60
        x.set(0, 1);
        x.set(1, 99);
        x.set(2, 0);
        x.set(3, 60);
        x.ship(2, 2, 0, 0);
        due.is("22: C from 61 on", x.persuaded(2, 1), 61);
        Due.text(x, "CC").done();
        due.is("22: through already", x.persuaded(2, 1), 61);
        // owners: C 0; captains: T 0, C above W as soon as HULL and 6 HEAD are above 600
        StraitFleet y = Due.withTide("1");
        y.set(2, 0);
        y.set(3, 60);
        y.ship(0, 6, 0, 0);
        y.set(5, 10);
        due.is("22: by the most HEAD", y.persuaded(0, 0), 99);
        y.set(5, 6);
        due.is("22: not by the most HEAD", y.persuaded(0, 0), NONE);
    }

    private static void offers() {
        StraitFleet x = new StraitFleet();
        due.is("23: offer", x.offer(3, 0, 0), 1);
        due.is("23: offer", x.offer(0, 999, 9999), 2);
        due.is("23: otherwise", x.offer(3, 1, 1), 2);
        due.is("23: bits", x.told(11), 9);
        due.is("23: number", x.offer(-1, 0, 0), OUTSIDE);
        due.is("23: number", x.offer(4, 0, 0), OUTSIDE);
        due.is("23: premium", x.offer(1, -1, 0), OUTSIDE);
        due.is("23: premium", x.offer(1, 1000, 0), OUTSIDE);
        due.is("23: pays", x.offer(1, 0, -1), OUTSIDE);
        due.is("23: pays", x.offer(1, 0, 10000), OUTSIDE);
        due.is("23: bits", x.told(11), 9);
        due.is("24: go", x.noOffers(), 2);
        due.is("24: gone", x.noOffers(), 0);
        due.is("24: bits", x.told(11), 0);
    }

    private static void insured() {
        StraitFleet x = Due.withTide("40");
        x.ship(0, 10, 0, 100); // all of it 200, by W 800
        insuredIs(x, 0, 800, 0, 200);
        x.offer(2, 8, 20); // 80 for 80: not taken
        insuredIs(x, 0, 800, 0, 200);
        x.offer(1, 8, 21); // 80 for 84
        insuredIs(x, 0, 796, 2, 187);
        x.offer(3, 30, 500); // 300 for 2000
        insuredIs(x, 0, -904, 10, 38);
        insuredIs(x, 1, 0, 0, 0);
        x.offer(0, 0, 0);
        insuredIs(x, 0, -904, 10, 38);
        x.offer(0, 0, 1);
        insuredIs(x, 0, -908, 11, 38);
        x.noOffers();
        insuredIs(x, 0, 800, 0, 200);
        x.offer(1, 0, 9999);
        insuredIs(x, 0, -39196, 2, 0);
        Due.text(x, "AC").done();
        insuredIs(x, 0, -39196, 2, 0);
        Due.text(x, "9").tide();
        for (int offer = 0; offer < 4; offer++) {
            x.offer(offer, 0, 9999);
        }
        insuredIs(x, 0, 1800 - 4 * 89991, 15, 0);
    }

    private static void insuredIs(StraitFleet x, int hour, int mean, int set, int worst) {
        due.is("25: mean", x.insured(0, hour, 0), 1000000 + mean);
        due.is("25: set", x.insured(0, hour, 1), set);
        due.is("25: worst", x.insured(0, hour, 2), worst);
    }

    private static void refusals() {
        StraitFleet x = new StraitFleet();
        x.ship(3, 5, 0, 0);
        int[] noShips = {-2, 0, 2, 4, 6, 35};
        for (int ship : noShips) {
            due.is("18: ship " + ship, x.bound(1000, -1, ship), UNKNOWN);
            due.is("21: ship " + ship, x.captain(ship, 1000), UNKNOWN);
            due.is("22: ship " + ship, x.persuaded(ship, 1000), UNKNOWN);
            due.is("25: ship " + ship, x.insured(ship, 1000, 3), UNKNOWN);
        }
        due.is("21: ship -1", x.captain(-1, 0), UNKNOWN);
        due.is("22: ship -1", x.persuaded(-1, 0), UNKNOWN);
        due.is("25: ship -1", x.insured(-1, 0, 0), UNKNOWN);
        int[] noHours = {-1, 1000, Integer.MIN_VALUE, Integer.MAX_VALUE};
        for (int hour : noHours) {
            due.is("18: hour " + hour, x.bound(hour, 0, 3), OUTSIDE);
            due.is("19: hour " + hour, x.line(hour, 0, 0), OUTSIDE);
            due.is("20: hour " + hour, x.convoy(hour, 0), OUTSIDE);
            due.is("21: hour " + hour, x.captain(3, hour), OUTSIDE);
            due.is("22: hour " + hour, x.persuaded(3, hour), OUTSIDE);
            due.is("25: hour " + hour, x.insured(3, hour, 0), OUTSIDE);
        }
        due.is("18: worst", x.bound(0, -1, -1), OUTSIDE);
        due.is("18: worst", x.bound(0, 100000, 3), OUTSIDE);
        due.is("19: i", x.line(0, -2, 0), OUTSIDE);
        due.is("19: what", x.line(0, 0, -1), OUTSIDE);
        due.is("19: what", x.line(0, 0, 2), OUTSIDE);
        due.is("19: what", x.line(0, 5, 2), OUTSIDE);
        due.is("20: what", x.convoy(0, -1), OUTSIDE);
        due.is("20: what", x.convoy(0, 2), OUTSIDE);
        due.is("25: what", x.insured(3, 0, -1), OUTSIDE);
        due.is("25: what", x.insured(3, 0, 3), OUTSIDE);
    }
}
