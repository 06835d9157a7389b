/** Promises 14 to 17: the mean, the worst, the choice, and when to wait. */
public final class ChoicesTest {
    private static final int UNKNOWN = -1, OUTSIDE = -2;
    private static final Due due = new Due("ChoicesTest");

    public static void main(String[] args) {
        means();
        worsts();
        choices();
        held();
        shipsThatAreGone();
        refusals();
        due.close();
    }

    private static void means() {
        StraitFleet x = Due.withTide("309");
        x.set(1, 7);
        x.set(2, 2);
        x.set(3, 5);
        x.ship(0, 10, 2, 40);
        due.is("14: T", x.mean(0, 0, 0), 280);
        due.is("14: T at another hour", x.mean(0, 0, 1), 280);
        due.is("14: W by 3", x.mean(0, 1, 0), 330);
        due.is("14: W by 0", x.mean(0, 1, 1), 0);
        due.is("14: W by 9", x.mean(0, 1, 2), 990);
        due.is("14: W, the last hour", x.mean(0, 1, 999), 330);
        due.is("14: C", x.mean(0, 2, 0), 1000);
        x.ship(0, 4, 2, 40);
        due.is("14: T, no man left", x.mean(0, 0, 0), 680);
        x.ship(0, 5, 2, 40);
        due.is("14: T, a man left", x.mean(0, 0, 0), 280);
        x.ship(0, 2, 2, 40);
        due.is("14: T, only as many as there are", x.mean(0, 0, 0), 540);
        x.ship(0, 30, 9, 999);
        due.is("14: T, straw alone", x.mean(0, 0, 0), 0);
        x.set(0, 9);
        x.ship(0, 30, 0, 999);
        due.is("14: T, nine teeth", x.mean(0, 0, 0), 630);
    }

    private static void worsts() {
        StraitFleet x = Due.withTide("10");
        x.set(1, 7);
        x.set(2, 2);
        x.set(3, 5);
        x.ship(0, 10, 2, 40);
        due.is("15: T", x.worst(0, 0, 0), 28);
        due.is("15: W by 1", x.worst(0, 1, 0), 110);
        due.is("15: W by 0", x.worst(0, 1, 1), 0);
        due.is("15: C", x.worst(0, 2, 0), 100);
        x.ship(0, 4, 0, 40);
        due.is("15: T, no man left", x.worst(0, 0, 999), 68);
    }

    private static void choices() {
        StraitFleet x = Due.withTide("0123456789");
        x.set(2, 3);
        x.ship(0, 10, 0, 0); // T 600, W 100 a tenth, C 6000
        int[] want = {1, 1, 1, 1, 1, 1, 0, 0, 0, 0};
        for (int hour = 0; hour < 10; hour++) {
            due.is("16: by " + hour, x.choice(0, hour), want[hour]);
        }
        x.set(2, 1);
        x.set(3, 3); // C 300
        int[] withCape = {1, 1, 1, 1, 2, 2, 2, 2, 2, 2};
        for (int hour = 0; hour < 10; hour++) {
            due.is("16: with the cape, by " + hour, x.choice(0, hour), withCape[hour]);
        }
        x.set(2, 0);
        x.ship(0, 10, 6, 0);
        due.is("16: all alike, the first", x.choice(0, 0), 0);
        due.is("16: T and C alike", x.choice(0, 5), 0);
        x.ship(0, 10, 5, 0);
        due.is("16: W and C alike", x.choice(0, 0), 1);
    }

    private static void held() {
        StraitFleet x = Due.withTide("55310");
        x.set(2, 20);
        x.set(4, 10);
        x.ship(0, 10, 0, 100); // T 600, W 200 a tenth, C 40000; 100 an hour
        heldIs(x, 0, 4, 400, 1);
        heldIs(x, 1, 4, 300, 1);
        heldIs(x, 3, 4, 100, 1);
        heldIs(x, 4, 4, 0, 1);
        heldIs(x, 5, 9, 400, 1);
        heldIs(x, 976, 979, 300, 1);
        x.set(4, 11);
        heldIs(x, 0, 4, 440, 1);
        x.set(4, 20);
        heldIs(x, 0, 0, 600, 0); // in hours 3 and 4: 800
        heldIs(x, 2, 3, 400, 1); // in hour 4 as well: the first
        x.set(4, 0);
        heldIs(x, 0, 4, 0, 1);
        x.set(4, 99);
        heldIs(x, 0, 0, 600, 0);
        StraitFleet y = Due.withTide("999999999999999999999990");
        y.set(4, 0);
        y.ship(0, 10, 0, 100);
        heldIs(y, 0, 23, 0, 1);
        heldIs(y, 1, 23, 0, 1);
        y.set(2, 0);
        heldIs(y, 0, 0, 0, 2);
        Due.text(y, "900000000000000000000000").tide();
        y.set(2, 20);
        heldIs(y, 0, 1, 0, 1);
    }

    private static void heldIs(StraitFleet x, int from, int hour, int mean, int side) {
        due.is("17: hour from " + from, x.held(0, from, 0), hour);
        due.is("17: mean from " + from, x.held(0, from, 1), mean);
        due.is("17: side from " + from, x.held(0, from, 2), side);
    }

    private static void shipsThatAreGone() {
        StraitFleet x = Due.withTide("5");
        x.ship(0, 10, 3, 100);
        x.ship(1, 3, 0, 50);
        Due.text(x, "ATBT").done();
        due.is("14: of a ship that is through", x.mean(0, 0, 0), 600);
        due.is("14: of a ship that is through", x.mean(0, 1, 0), 850);
        due.is("15: of a ship that is through", x.worst(0, 1, 0), 170);
        due.is("16: of a ship that is through", x.choice(0, 0), 0);
        for (int side = 0; side < 3; side++) {
            due.is("14: of a lost one", x.mean(1, side, 0), 0);
            due.is("15: of a lost one", x.worst(1, side, 0), 0);
        }
        due.is("16: of a lost one", x.choice(1, 0), 0);
        due.is("17: of a lost one", x.held(1, 5, 0), 5);
    }

    private static void refusals() {
        StraitFleet x = new StraitFleet();
        x.ship(3, 5, 0, 0);
        int[] noShips = {-1, 0, 2, 4, 6, 35};
        for (int ship : noShips) {
            due.is("14: ship " + ship, x.mean(ship, 3, 0), UNKNOWN);
            due.is("15: ship " + ship, x.worst(ship, 0, 1000), UNKNOWN);
            due.is("16: ship " + ship, x.choice(ship, -1), UNKNOWN);
            due.is("17: ship " + ship, x.held(ship, 0, 3), UNKNOWN);
        }
        due.is("14: side", x.mean(3, -1, 0), OUTSIDE);
        due.is("14: side", x.mean(3, 3, 0), OUTSIDE);
        due.is("14: hour", x.mean(3, 0, -1), OUTSIDE);
        due.is("14: hour", x.mean(3, 0, 1000), OUTSIDE);
        due.is("15: side", x.worst(3, -1, 0), OUTSIDE);
        due.is("15: side", x.worst(3, 3, 0), OUTSIDE);
        due.is("15: hour", x.worst(3, 0, -1), OUTSIDE);
        due.is("15: hour", x.worst(3, 0, 1000), OUTSIDE);
        due.is("16: hour", x.choice(3, -1), OUTSIDE);
        due.is("16: hour", x.choice(3, 1000), OUTSIDE);
        due.is("17: hour", x.held(3, -1, 0), OUTSIDE);
        due.is("17: hour", x.held(3, 977, 0), OUTSIDE);
        due.is("17: what", x.held(3, 0, -1), OUTSIDE);
        due.is("17: what", x.held(3, 0, 3), OUTSIDE);
        due.is("16: the last hour", x.choice(3, 999), 1);
    }
}
