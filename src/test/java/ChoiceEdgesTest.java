/** Each sentence of the document on means, worsts, choices and waiting that names a boundary: promises 14 to 17. */
public final class ChoiceEdgesTest {
    private static final int T = 0, W = 1, C = 2;
    private static final int TEETH = 0, LIFE = 1, PAY = 2, DAYS = 3, WAIT = 4, SEED = 7;
    private static final Due due = new Due("ChoiceEdgesTest");

    public static void main(String[] args) {
        means();
        worsts();
        asTheyAreNow();
        choices();
        held();
        heldToTheLastHour();
        due.close();
    }

    private static StraitFleet one(String tide, int men, int straw, int cargo) {
        StraitFleet x = Due.withTide(tide);
        x.ship(0, men, straw, cargo);
        return x;
    }

    private static void means() {
        due.sentence("Promise 14", "MEAN by T, in tenths: of what is lost (LIFE of each man, CARGO)");
        for (int teeth = 1; teeth <= 9; teeth++) {
            for (int straw = 0; straw <= 9; straw++) {
                int taken = Math.max(0, teeth - straw);
                int[] crews = {1, Math.max(1, taken), taken + 1, 30};
                for (int men : crews) {
                    StraitFleet x = one("9", men, straw, 777);
                    x.set(TEETH, teeth);
                    x.set(LIFE, 13);
                    int lost = men <= taken ? 13 * men + 777 : 13 * taken;
                    String of = " of " + men + " men and " + straw + " of straw by " + teeth + " teeth";
                    due.is("mean" + of, x.mean(0, T, 0), 10 * lost);
                    due.is("worst" + of, x.worst(0, T, 0), lost);
                }
            }
        }
        due.sentence("Promise 14", "MEAN by W, in tenths: by each digit");
        StraitFleet x = one("0123456789", 30, 9, 999);
        x.set(LIFE, 99);
        for (int hour = 0; hour < 10; hour++) {
            due.is("mean by " + hour, x.mean(0, W, hour), hour * 3969);
        }
        due.sentence("Promise 14", "MEAN by C, in tenths: what is paid");
        x.set(PAY, 20);
        x.set(DAYS, 60);
        due.is("the most", x.mean(0, C, 999), 360000);
        x.set(DAYS, 0);
        due.is("no days", x.mean(0, C, 0), 0);
        x.set(DAYS, 60);
        x.set(PAY, 0);
        due.is("no pay", x.mean(0, C, 0), 0);
        x.ship(0, 1, 0, 0);
        x.set(PAY, 1);
        x.set(DAYS, 1);
        due.is("one man, one day", x.mean(0, C, 0), 10);
        due.sentence("Promise 14", "LIFE (0 to 99): men who are worth nothing, CARGO alone");
        x = one("5", 6, 0, 8);
        x.set(LIFE, 0);
        due.is("T takes all", x.mean(0, T, 0), 80);
        due.is("W", x.mean(0, W, 0), 40);
        x.ship(0, 7, 0, 8);
        due.is("T leaves one", x.mean(0, T, 0), 0);
        due.sentence("Promise 14", "the hour: 0 to 999");
        x = one("123456789012345678901234", 1, 0, 0);
        x.set(LIFE, 1);
        due.is("hour 0", x.mean(0, W, 0), 1);
        due.is("hour 23", x.mean(0, W, 23), 4);
        due.is("hour 24", x.mean(0, W, 24), 1);
        due.is("hour 999", x.mean(0, W, 999), 6);
    }

    private static void worsts() {
        due.sentence("Promise 15", "WORST: the most that can be lost and paid");
        StraitFleet x = one("1", 30, 0, 999);
        x.set(LIFE, 99);
        x.set(TEETH, 9);
        x.set(PAY, 20);
        x.set(DAYS, 60);
        due.is("T", x.worst(0, T, 0), 891);
        due.is("W", x.worst(0, W, 0), 3969);
        due.is("C", x.worst(0, C, 999), 36000);
        x.ship(0, 9, 0, 999);
        due.is("T, no man left", x.worst(0, T, 999), 1890);
        x.ship(0, 10, 0, 999);
        due.is("T, one man left", x.worst(0, T, 999), 891);
        x.ship(0, 1, 9, 999);
        due.is("T, straw alone", x.worst(0, T, 0), 0);
        due.sentence("Promise 15", "(by W: all, if the digit is above 0; else nothing)");
        x = one("0123456789", 5, 5, 50);
        for (int hour = 0; hour < 20; hour++) {
            due.is("hour " + hour, x.worst(0, W, hour), hour % 10 == 0 ? 0 : 100);
        }
        due.is("hour 990", x.worst(0, W, 990), 0);
        due.is("hour 999", x.worst(0, W, 999), 100);
        x = one("0", 30, 0, 999);
        due.is("the tide is still", x.worst(0, W, 999), 0);
    }

    private static void asTheyAreNow() {
        due.sentence("Promises 14, 15", "(MEN, STRAW, CARGO as they are now, whether it is in the harbour or not.)");
        StraitFleet x = one("5", 10, 4, 30);
        Due.text(x, "AT").done(); // 8 men are left
        due.is("through: T", x.mean(0, T, 0), 600);
        due.is("through: W", x.mean(0, W, 0), 550);
        due.is("through: C", x.mean(0, C, 0), 1600);
        due.is("through: worst by T", x.worst(0, T, 0), 60);
        due.is("through: worst by W", x.worst(0, W, 0), 110);
        due.is("through: worst by C", x.worst(0, C, 0), 160);
        due.is("through: choice", x.choice(0, 0), W);
        x = one("5", 6, 0, 30);
        Due.text(x, "AT").done();
        lostCostsNothing(x);
        x = one("9", 6, 0, 30);
        x.set(SEED, 0);
        Due.text(x, "AW").done();
        lostCostsNothing(x);
    }

    private static void lostCostsNothing(StraitFleet x) {
        due.is("lost", x.state(0, 0), 2);
        for (int side = 0; side < 3; side++) {
            due.is("lost: mean by " + side, x.mean(0, side, 0), 0);
            due.is("lost: worst by " + side, x.worst(0, side, 999), 0);
        }
        due.is("lost: choice", x.choice(0, 0), T);
        due.is("lost: held, the hour", x.held(0, 976, 0), 976);
        due.is("lost: held, the mean", x.held(0, 976, 1), 0);
        due.is("lost: held, the side", x.held(0, 976, 2), T);
    }

    private static void choices() {
        due.sentence("Promise 16", "CHOICE: the SIDE of the least MEAN, the first: T and W");
        StraitFleet x = one("5", 10, 0, 20); // T 600, C 2000
        due.is("600 and 600", x.choice(0, 0), T);
        x.ship(0, 10, 0, 19);
        due.is("600 and 595", x.choice(0, 0), W);
        x.ship(0, 10, 0, 21);
        due.is("600 and 605", x.choice(0, 0), T);
        due.sentence("Promise 16", "CHOICE: the SIDE of the least MEAN, the first: T and C");
        x = one("9", 10, 0, 999);
        x.set(DAYS, 6);
        due.is("600 and 600", x.choice(0, 0), T);
        x.set(DAYS, 5);
        due.is("600 and 500", x.choice(0, 0), C);
        x.set(DAYS, 7);
        due.is("600 and 700", x.choice(0, 0), T);
        due.sentence("Promise 16", "CHOICE: the SIDE of the least MEAN, the first: W and C");
        x = one("5", 10, 0, 0);
        x.set(DAYS, 5);
        due.is("500 and 500", x.choice(0, 0), W);
        x.ship(0, 10, 0, 1);
        due.is("505 and 500", x.choice(0, 0), C);
        x.set(DAYS, 6);
        due.is("505 and 600", x.choice(0, 0), W);
        due.sentence("Promise 16", "CHOICE: the SIDE of the least MEAN, the first: all alike");
        x = one("6", 10, 0, 0);
        x.set(DAYS, 6);
        due.is("600, 600, 600", x.choice(0, 0), T);
        x = one("0", 30, 9, 999);
        x.set(PAY, 0);
        due.is("0, 0, 0", x.choice(0, 999), T);
        due.sentence("Promise 16", "CHOICE at the first and the last hour");
        x = one("9999999999999990", 10, 0, 0); // 999 is left over by 16 as 7
        due.is("hour 0", x.choice(0, 0), T);
        due.is("hour 15", x.choice(0, 15), W);
        due.is("hour 991", x.choice(0, 991), W);
        due.is("hour 999", x.choice(0, 999), T);
    }

    private static void heldIs(StraitFleet x, int from, int hour, int mean, int side) {
        due.is("the hour from " + from, x.held(0, from, 0), hour);
        due.is("mean and waits from " + from, x.held(0, from, 1), mean);
        due.is("the side from " + from, x.held(0, from, 2), side);
    }

    private static void held() {
        due.sentence("Promise 17", "the least MEAN by CHOICE and 10 times WAIT for each hour; the first");
        StraitFleet x = one("50", 10, 0, 10); // T 600, W 550 or 0
        x.set(WAIT, 54);
        heldIs(x, 0, 1, 540, W);
        x.set(WAIT, 55);
        heldIs(x, 0, 0, 550, W);
        x.set(WAIT, 56);
        heldIs(x, 0, 0, 550, W);
        heldIs(x, 1, 1, 0, W);
        due.sentence("Promise 17", "WAIT (0 to 99): the first hour of several where waiting costs nothing");
        x = one("9399339", 10, 0, 0); // T 600, W 300
        x.set(WAIT, 0);
        heldIs(x, 0, 1, 300, W);
        heldIs(x, 2, 4, 300, W);
        heldIs(x, 5, 5, 300, W);
        heldIs(x, 6, 8, 300, W);
        due.sentence("Promise 17", "WAIT (0 to 99): 10 times 99 for each hour");
        int[] zeroAt = {17, 18};
        int[] hour = {17, 0};
        int[] mean = {16830, 17010};
        for (int i = 0; i < 2; i++) {
            x = one("9".repeat(zeroAt[i]) + "0" + "9".repeat(23 - zeroAt[i]), 9, 0, 999);
            x.set(TEETH, 9);
            x.set(LIFE, 99);
            x.set(PAY, 20);
            x.set(DAYS, 60);
            x.set(WAIT, 99);
            heldIs(x, 0, hour[i], mean[i], W); // T 18900, W 17010
        }
        due.sentence("Promise 17", "its SIDE: that of CHOICE in the hour it waits for, the first");
        x = one("90", 10, 6, 10);
        heldIs(x, 0, 0, 0, T);
        heldIs(x, 1, 1, 0, T);
        x.ship(0, 10, 5, 10); // T 100, W 0 in odd hours
        x.set(WAIT, 9);
        heldIs(x, 0, 1, 90, W);
        x.set(WAIT, 10);
        heldIs(x, 0, 0, 100, T);
        x.set(PAY, 0);
        heldIs(x, 0, 0, 0, C);
        heldIs(x, 1, 1, 0, W);
    }

    private static void heldToTheLastHour() {
        due.sentence("Promise 17", "from an hour on up to 23 hours later");
        for (int from = 0; from < 48; from++) {
            int last = (from + 23) % 24;
            StraitFleet x = one("9".repeat(last) + "0" + "9".repeat(23 - last), 10, 0, 10);
            x.set(WAIT, 0);
            heldIs(x, from, from + 23, 0, W);
            x.set(WAIT, 2);
            heldIs(x, from, from + 23, 460, W);
            x.set(WAIT, 3); // 690 is more than 600 by T at once
            heldIs(x, from, from, 600, T);
        }
        due.sentence("Promise 17", "OUTSIDE: the hour 0 to 976: from 976 on up to hour 999");
        StraitFleet x = one("9".repeat(15) + "0" + "9".repeat(8), 10, 0, 10);
        heldIs(x, 976, 999, 230, W);
        heldIs(x, 975, 975, 0, W);
        heldIs(x, 974, 975, 10, W);
        due.is("977 is too large", x.held(0, 977, 0), -2);
        due.is("-1 is too small", x.held(0, -1, 0), -2);
    }
}
