import java.util.HashMap;
import java.util.Map;

/**
 * Every number of every call just beyond its range and far beyond it, every refusal, the first that fits of several,
 * and after each one that nothing has changed: not what can be seen, not the pad, not the images.
 */
public final class RefusalEdgesTest {
    private static final int UNKNOWN = -1, OUTSIDE = -2, STATE = -3, FULL = -4, NO = -5;
    private static final long GONE = -1000000000000000000L;
    private static final int MIN = Integer.MIN_VALUE, MAX = Integer.MAX_VALUE;
    private static final Due due = new Due("RefusalEdgesTest");

    /** A season that can be, of the ships in the harbour. */
    private static final String SEASON = "DW.AT";
    /** A season whose second part can not be: B is through. */
    private static final String CAN_NOT_BE = "ATBT.DW";
    private static final String FAULT = "AT?";
    private static final String DIGITS_25 = "1234567890123456789012345";
    private static final String FULL_PAD = "DW.AT" + ".".repeat(55);

    private static final Map<String, String> untouched = new HashMap<>();

    private interface Call {
        long on(StraitFleet x);
    }

    private interface CallWith {
        long on(StraitFleet x, int v);
    }

    public static void main(String[] args) {
        constants();
        ships();
        terms();
        pads();
        seasons();
        choices();
        fleets();
        captainsAndInsurers();
        crews();
        rolls();
        yearsAndImages();
        told();
        due.close();
    }

    /** A and D are in the harbour, B is through, C is lost, E and F are not; image 0 is kept, image 1 is not. */
    private static StraitFleet made(String pad, int rolls) {
        StraitFleet x = Due.withTide("507");
        int[] terms = {5, 7, 2, 11, 3, 40, 6, 4711};
        for (int which = 0; which < 8; which++) {
            x.set(which, terms[which]);
        }
        x.ship(0, 9, 2, 40);
        x.ship(1, 8, 0, 30);
        x.ship(2, 3, 1, 20);
        x.image(0);
        x.ship(3, 12, 9, 999);
        Due.text(x, "BC.CT").done();
        x.offer(0, 20, 60);
        x.offer(2, 5, 300);
        x.aboard(1, 0);
        x.aboard(4, 3);
        x.aboard(6, 3);
        for (int i = 0; i < rolls; i++) {
            x.roll(3 << i, 3 + i % 2);
        }
        return Due.text(x, pad);
    }

    /** Some 210 calls, so that one object is not asked more than 512 times. */
    private static String whole(StraitFleet x) {
        StringBuilder text = new StringBuilder(Snapshot.of(x));
        text.append(" pad ").append(x.told(0)).append(' ').append(x.fault(0)).append(' ').append(x.fault(1));
        text.append(' ').append(x.judge(0)).append(' ').append(x.judge(1));
        for (int ship = 0; ship < 4; ship++) {
            for (int what = 0; what < 3; what++) {
                text.append(' ').append(x.behind(ship, what));
            }
        }
        text.append(" images ").append(x.restore(1)).append(' ').append(x.restore(0)).append(' ');
        return text.append(Snapshot.of(x)).toString();
    }

    private static void refused(String call, String pad, int rolls, long want, Call c) {
        String unchanged = untouched.computeIfAbsent(pad + rolls, key -> whole(made(pad, rolls)));
        StraitFleet x = made(pad, rolls);
        due.is(call, c.on(x), want);
        due.holds("nothing changed by " + call, whole(x).equals(unchanged));
    }

    private static void refused(String call, long want, Call c) {
        refused(call, SEASON, 2, want, c);
    }

    /** Each number beyond the range is refused, its two ends are not. */
    private static void range(String call, int least, int most, long want, CallWith c) {
        for (int v : Beyond.range(least, most)) {
            refused(call + " with " + v, want, x -> c.on(x, v));
        }
        int[] ends = {least, most};
        for (int v : ends) {
            long answer = c.on(made(SEASON, 2), v);
            due.holds(call + " with " + v + " is not refused, it answered " + answer, answer >= 0 || answer == -6);
        }
    }

    /** No ship that is there has such a number: beyond 0 to 5, and E and F. */
    private static void noShip(String call, CallWith c) {
        for (int v : Beyond.and(Beyond.range(0, 5), 4, 5)) {
            refused(call + " of ship " + v, UNKNOWN, x -> c.on(x, v));
        }
        for (int v = 0; v < 4; v++) {
            long answer = c.on(made(SEASON, 2), v);
            due.holds(call + " of ship " + v + " is not refused, it answered " + answer, answer >= 0 || answer == -6);
        }
    }

    private static void constants() {
        due.sentence("Constants", "UNKNOWN = -1, OUTSIDE = -2, STATE = -3, FULL = -4, NO = -5, NONE = -6");
        due.is("UNKNOWN", StraitFleet.UNKNOWN, -1);
        due.is("OUTSIDE", StraitFleet.OUTSIDE, -2);
        due.is("STATE", StraitFleet.STATE, -3);
        due.is("FULL", StraitFleet.FULL, -4);
        due.is("NO", StraitFleet.NO, -5);
        due.is("NONE", StraitFleet.NONE, -6);
        due.sentence("Constants", "GONE = -1000000000000000000L");
        due.is("GONE", StraitFleet.GONE, -1000000000000000000L);
    }

    private static void ships() {
        due.sentence("Promise 2", "UNKNOWN: the number");
        range("ship(v, 1, 0, 0)", 0, 5, UNKNOWN, (x, v) -> x.ship(v, 1, 0, 0));
        due.sentence("Promise 2", "UNKNOWN first, then OUTSIDE");
        for (int v : Beyond.range(0, 5)) {
            refused("ship(" + v + ", 0, 10, 1000)", UNKNOWN, x -> x.ship(v, 0, 10, 1000));
        }
        due.sentence("Promise 2", "OUTSIDE: MEN (1 to 30)");
        range("ship(0, v, 0, 0)", 1, 30, OUTSIDE, (x, v) -> x.ship(0, v, 0, 0));
        range("ship(5, v, 9, 999)", 1, 30, OUTSIDE, (x, v) -> x.ship(5, v, 9, 999));
        due.sentence("Promise 2", "OUTSIDE: STRAW (0 to 9 men of straw)");
        range("ship(1, 1, v, 0)", 0, 9, OUTSIDE, (x, v) -> x.ship(1, 1, v, 0));
        range("ship(4, 30, v, 999)", 0, 9, OUTSIDE, (x, v) -> x.ship(4, 30, v, 999));
        due.sentence("Promise 2", "OUTSIDE: CARGO (0 to 999)");
        range("ship(2, 1, 0, v)", 0, 999, OUTSIDE, (x, v) -> x.ship(2, 1, 0, v));
        range("ship(4, 30, 9, v)", 0, 999, OUTSIDE, (x, v) -> x.ship(4, 30, 9, v));
        due.sentence("Promise 3", "UNKNOWN: there was none");
        noShip("scrap(v)", (x, v) -> x.scrap(v));
    }

    private static void terms() {
        due.sentence("Promise 4", "OUTSIDE: which, 0 to 7");
        range("set(v, 1)", 0, 7, OUTSIDE, (x, v) -> x.set(v, 1));
        int[] least = {1, 0, 0, 0, 0, 0, 0, 0};
        int[] most = {9, 99, 20, 60, 99, 99, 99, 9999};
        String[] names = {
            "TEETH (1 to 9", "LIFE (0 to 99", "PAY (0 to 20", "DAYS (0 to 60", "WAIT (0 to 99", "HULL (0 to 99",
            "HEAD (0 to 99", "SEED (0 to 9999",
        };
        for (int i = 0; i < 8; i++) {
            int which = i;
            due.sentence("Promise 4", "OUTSIDE: " + names[i] + ")");
            range("set(" + which + ", v)", least[i], most[i], OUTSIDE, (x, v) -> x.set(which, v));
        }
    }

    private static void pads() {
        due.sentence("Promise 5", "OUTSIDE: (codes 33 to 126)");
        range("say(v)", 33, 126, OUTSIDE, (x, v) -> x.say(v));
        due.sentence("Promise 5", "FULL: The PAD has up to 60 signs");
        for (int sign = 33; sign <= 126; sign++) {
            int v = sign;
            refused("say(" + v + ") on a full pad", FULL_PAD, 2, FULL, x -> x.say(v));
        }
        due.sentence("Promise 5", "OUTSIDE first, then FULL");
        for (int v : Beyond.range(33, 126)) {
            refused("say(" + v + ") on a full pad", FULL_PAD, 2, OUTSIDE, x -> x.say(v));
        }
        due.sentence("Promise 7", "OUTSIDE: how.");
        range("fault(v)", 0, 1, OUTSIDE, (x, v) -> x.fault(v));
        due.sentence("Promise 8", "NO: there is a FAULT (0)");
        String[] faults = {"", "x", "1x", "x1", "12.", DIGITS_25, DIGITS_25 + "x", FULL_PAD, "9".repeat(60)};
        for (String pad : faults) {
            refused("tide() of " + pad, pad, 2, NO, x -> x.tide());
        }
    }

    private static void seasons() {
        due.sentence("Promise 9", "OUTSIDE: what, 0 and 1");
        range("judge(v)", 0, 1, OUTSIDE, (x, v) -> x.judge(v));
        due.sentence("Promise 9", "NO: there is a FAULT (1)");
        String[] faults = {FAULT, "A", "ATB", "5", "T", "A.", "ATBT.?", FULL_PAD.substring(1), ".".repeat(59) + "A"};
        for (String pad : faults) {
            refused("judge(0) of " + pad, pad, 2, NO, x -> x.judge(0));
            refused("judge(1) of " + pad, pad, 2, NO, x -> x.judge(1));
        }
        due.sentence("Promise 9", "OUTSIDE first, then NO");
        for (int v : Beyond.range(0, 1)) {
            refused("judge(" + v + ") of a fault", FAULT, 2, OUTSIDE, x -> x.judge(v));
        }
        due.sentence("Promise 10", "UNKNOWN");
        noShip("state(v, 0)", (x, v) -> x.state(v, 0));
        noShip("state(v, 2)", (x, v) -> x.state(v, 2));
        due.sentence("Promise 10", "OUTSIDE: what, 0 to 2");
        range("state(0, v)", 0, 2, OUTSIDE, (x, v) -> x.state(0, v));
        due.sentence("Promise 10", "UNKNOWN first, then OUTSIDE");
        refused("state(4, 3)", UNKNOWN, x -> x.state(4, 3));
        refused("state(6, -1)", UNKNOWN, x -> x.state(6, -1));
        behindAndDone(faults);
        due.sentence("Promise 13", "OUTSIDE: what, 0 to 2");
        range("sum(v)", 0, 2, OUTSIDE, (x, v) -> x.sum(v));
    }

    private static void behindAndDone(String[] faults) {
        due.sentence("Promise 11", "UNKNOWN");
        noShip("behind(v, 0)", (x, v) -> x.behind(v, 0));
        due.sentence("Promise 11", "OUTSIDE: what, 0 to 2");
        range("behind(0, v)", 0, 2, OUTSIDE, (x, v) -> x.behind(0, v));
        due.sentence("Promise 11", "NO: there is a FAULT (1)");
        for (String pad : faults) {
            for (int what = 0; what < 3; what++) {
                int w = what;
                refused("behind(3, " + w + ") of " + pad, pad, 2, NO, x -> x.behind(3, w));
            }
        }
        String[] canNotBe = {CAN_NOT_BE, "BT", "CW", "ET", ".FC", "ATAT", "AWAW", "ACAC", ".".repeat(58) + "BC"};
        due.sentence("Promise 11", "or a part that can not be");
        for (String pad : canNotBe) {
            refused("behind(0, 0) of " + pad, pad, 2, NO, x -> x.behind(0, 0));
            refused("behind(3, 1) of " + pad, pad, 2, NO, x -> x.behind(3, 1));
        }
        due.sentence("Promise 11", "UNKNOWN first, then OUTSIDE, then NO");
        refused("behind(4, 3) of a fault", FAULT, 2, UNKNOWN, x -> x.behind(4, 3));
        refused("behind(4, 0) of a fault", FAULT, 2, UNKNOWN, x -> x.behind(4, 0));
        refused("behind(4, 0) of a part that can not be", "ET", 2, UNKNOWN, x -> x.behind(4, 0));
        refused("behind(0, 3) of a fault", FAULT, 2, OUTSIDE, x -> x.behind(0, 3));
        refused("behind(0, -1) of a part that can not be", CAN_NOT_BE, 2, OUTSIDE, x -> x.behind(0, -1));
        due.sentence("Promise 12", "NO, likewise: there is a FAULT (1)");
        for (String pad : faults) {
            refused("done() of " + pad, pad, 2, NO, x -> x.done());
        }
        due.sentence("Promise 12", "NO, likewise: or a part that can not be");
        for (String pad : canNotBe) {
            refused("done() of " + pad, pad, 2, NO, x -> x.done());
        }
    }

    private static void choices() {
        due.sentence("Promise 14", "UNKNOWN");
        noShip("mean(v, 0, 0)", (x, v) -> x.mean(v, 0, 0));
        due.sentence("Promise 14", "OUTSIDE: the SIDE");
        range("mean(0, v, 0)", 0, 2, OUTSIDE, (x, v) -> x.mean(0, v, 0));
        due.sentence("Promise 14", "OUTSIDE: the hour");
        range("mean(0, 1, v)", 0, 999, OUTSIDE, (x, v) -> x.mean(0, 1, v));
        range("mean(0, 2, v)", 0, 999, OUTSIDE, (x, v) -> x.mean(0, 2, v));
        due.sentence("Promise 15", "UNKNOWN");
        noShip("worst(v, 1, 999)", (x, v) -> x.worst(v, 1, 999));
        due.sentence("Promise 15", "OUTSIDE");
        range("worst(0, v, 0)", 0, 2, OUTSIDE, (x, v) -> x.worst(0, v, 0));
        range("worst(0, 1, v)", 0, 999, OUTSIDE, (x, v) -> x.worst(0, 1, v));
        range("worst(0, 0, v)", 0, 999, OUTSIDE, (x, v) -> x.worst(0, 0, v));
        due.sentence("Promise 16", "UNKNOWN");
        noShip("choice(v, 0)", (x, v) -> x.choice(v, 0));
        due.sentence("Promise 16", "OUTSIDE");
        range("choice(0, v)", 0, 999, OUTSIDE, (x, v) -> x.choice(0, v));
        due.sentence("Promise 17", "UNKNOWN");
        noShip("held(v, 0, 0)", (x, v) -> x.held(v, 0, 0));
        due.sentence("Promise 17", "OUTSIDE: the hour 0 to 976");
        for (int what = 0; what < 3; what++) {
            int w = what;
            range("held(0, v, " + w + ")", 0, 976, OUTSIDE, (x, v) -> x.held(0, v, w));
        }
        refused("held(0, 999, 0)", OUTSIDE, x -> x.held(0, 999, 0));
        due.sentence("Promise 17", "OUTSIDE: what, 0 to 2");
        range("held(0, 0, v)", 0, 2, OUTSIDE, (x, v) -> x.held(0, 0, v));
        due.sentence("Promises 14 to 17", "UNKNOWN first, then OUTSIDE");
        refused("mean(4, 3, 1000)", UNKNOWN, x -> x.mean(4, 3, 1000));
        refused("worst(6, -1, -1)", UNKNOWN, x -> x.worst(6, -1, -1));
        refused("choice(-1, 1000)", UNKNOWN, x -> x.choice(-1, 1000));
        refused("held(5, 977, 3)", UNKNOWN, x -> x.held(5, 977, 3));
    }

    private static void fleets() {
        due.sentence("Promise 18", "UNKNOWN: no such SHIP (the MEAN is of -1 alone)");
        for (int v : Beyond.and(Beyond.range(-1, 5), -2, 6, 4, 5)) {
            refused("bound(0, 99999, " + v + ")", UNKNOWN, x -> x.bound(0, 99999, v));
        }
        due.sentence("Promise 18", "UNKNOWN: also not in the harbour");
        refused("bound of B, which is through", UNKNOWN, x -> x.bound(0, 99999, 1));
        refused("bound of C, which is lost", UNKNOWN, x -> x.bound(0, 99999, 2));
        due.sentence("Promise 18", "OUTSIDE: WORST 0 to 99999");
        range("bound(0, v, -1)", 0, 99999, OUTSIDE, (x, v) -> x.bound(0, v, -1));
        range("bound(0, v, 3)", 0, 99999, OUTSIDE, (x, v) -> x.bound(0, v, 3));
        due.sentence("Promise 18", "OUTSIDE: the hour");
        range("bound(v, 99999, -1)", 0, 999, OUTSIDE, (x, v) -> x.bound(v, 99999, -1));
        range("bound(v, 0, 0)", 0, 999, OUTSIDE, (x, v) -> x.bound(v, 0, 0));
        due.sentence("Promise 18", "UNKNOWN first, then OUTSIDE");
        refused("bound(1000, 100000, 1)", UNKNOWN, x -> x.bound(1000, 100000, 1));
        refused("bound(-1, 0, -2)", UNKNOWN, x -> x.bound(-1, 0, -2));
        refused("bound(0, -1, 4)", UNKNOWN, x -> x.bound(0, -1, 4));
        due.sentence("Promise 19", "OUTSIDE: the hour");
        range("line(v, -1, 0)", 0, 999, OUTSIDE, (x, v) -> x.line(v, -1, 0));
        range("line(v, 0, 1)", 0, 999, OUTSIDE, (x, v) -> x.line(v, 0, 1));
        range("line(v, 700, 1)", 0, 999, OUTSIDE, (x, v) -> x.line(v, 700, 1));
        due.sentence("Promise 19", "OUTSIDE: i is below -1");
        int[] below = {-2, -3, -6, -33, -65537, MIN + 1, MIN};
        for (int v : below) {
            refused("line(0, " + v + ", 0)", OUTSIDE, x -> x.line(0, v, 0));
            refused("line(0, " + v + ", 1)", OUTSIDE, x -> x.line(0, v, 1));
        }
        due.sentence("Promise 19", "OUTSIDE: what, 0 and 1");
        range("line(0, 0, v)", 0, 1, OUTSIDE, (x, v) -> x.line(0, 0, v));
        range("line(0, 700, v)", 0, 1, OUTSIDE, (x, v) -> x.line(0, 700, v));
        due.sentence("Promise 20", "OUTSIDE");
        range("convoy(v, 0)", 0, 999, OUTSIDE, (x, v) -> x.convoy(v, 0));
        range("convoy(v, 1)", 0, 999, OUTSIDE, (x, v) -> x.convoy(v, 1));
        range("convoy(0, v)", 0, 1, OUTSIDE, (x, v) -> x.convoy(0, v));
    }

    private static void captainsAndInsurers() {
        due.sentence("Promise 21", "UNKNOWN");
        noShip("captain(v, 0)", (x, v) -> x.captain(v, 0));
        refused("captain(4, 1000)", UNKNOWN, x -> x.captain(4, 1000));
        due.sentence("Promise 21", "OUTSIDE");
        range("captain(0, v)", 0, 999, OUTSIDE, (x, v) -> x.captain(0, v));
        range("captain(2, v)", 0, 999, OUTSIDE, (x, v) -> x.captain(2, v));
        due.sentence("Promise 22", "UNKNOWN");
        noShip("persuaded(v, 0)", (x, v) -> x.persuaded(v, 0));
        refused("persuaded(4, -1)", UNKNOWN, x -> x.persuaded(4, -1));
        due.sentence("Promise 22", "OUTSIDE");
        range("persuaded(0, v)", 0, 999, OUTSIDE, (x, v) -> x.persuaded(0, v));
        due.sentence("Promise 23", "OUTSIDE: also the number");
        range("offer(v, 1, 1)", 0, 3, OUTSIDE, (x, v) -> x.offer(v, 1, 1));
        due.sentence("Promise 23", "OUTSIDE: a PREMIUM (0 to 999)");
        range("offer(0, v, 1)", 0, 999, OUTSIDE, (x, v) -> x.offer(0, v, 1));
        range("offer(3, v, 9999)", 0, 999, OUTSIDE, (x, v) -> x.offer(3, v, 9999));
        due.sentence("Promise 23", "OUTSIDE: PAYS (0 to 9999)");
        range("offer(0, 1, v)", 0, 9999, OUTSIDE, (x, v) -> x.offer(0, 1, v));
        range("offer(3, 999, v)", 0, 9999, OUTSIDE, (x, v) -> x.offer(3, 999, v));
        due.sentence("Promise 25", "UNKNOWN");
        noShip("insured(v, 0, 0)", (x, v) -> x.insured(v, 0, 0));
        refused("insured(4, 1000, 3)", UNKNOWN, x -> x.insured(4, 1000, 3));
        due.sentence("Promise 25", "OUTSIDE");
        range("insured(0, v, 1)", 0, 999, OUTSIDE, (x, v) -> x.insured(0, v, 1));
        range("insured(0, 0, v)", 0, 2, OUTSIDE, (x, v) -> x.insured(0, 0, v));
    }

    private static void crews() {
        due.sentence("Promise 26", "UNKNOWN: the number");
        range("aboard(v, 0)", 0, 7, UNKNOWN, (x, v) -> x.aboard(v, 0));
        refused("aboard(8, 10)", UNKNOWN, x -> x.aboard(8, 10));
        due.sentence("Promise 26", "OUTSIDE: (0 to 9)");
        range("aboard(1, v)", 0, 9, OUTSIDE, (x, v) -> x.aboard(1, v));
        range("aboard(7, v)", 0, 9, OUTSIDE, (x, v) -> x.aboard(7, v));
        due.sentence("Promise 27", "UNKNOWN: it was not");
        for (int v : Beyond.and(Beyond.range(0, 7), 0, 2, 3, 5, 7)) {
            refused("ashore(" + v + ")", UNKNOWN, x -> x.ashore(v));
            refused("lot(1, " + v + ", 0)", GONE + UNKNOWN, x -> x.lot(1, v, 0));
            refused("lot(9, " + v + ", 2)", GONE + UNKNOWN, x -> x.lot(9, v, 2));
        }
        due.sentence("Promise 28", "OUTSIDE: A LOT for n (1 to 8, no more than are aboard)");
        range("lot(v, 4, 0)", 1, 3, GONE + OUTSIDE, (x, v) -> x.lot(v, 4, 0));
        range("lot(v, 4, 1)", 1, 3, GONE + OUTSIDE, (x, v) -> x.lot(v, 4, 1));
        due.sentence("Promise 28", "OUTSIDE: by part: 0 the upper, 1 the lower number");
        range("lot(1, 4, v)", 0, 1, GONE + OUTSIDE, (x, v) -> x.lot(1, 4, v));
        due.sentence("Promise 28", "refused with GONE and the refusal");
        due.is("lot of no name", new StraitFleet().lot(1, 0, 0), -1000000000000000001L);
        due.is("lot for none", made("", 0).lot(0, 1, 0), -1000000000000000002L);
        oftens();
    }

    private static void oftens() {
        due.sentence("Promise 29", "OUTSIDE: m names (1 to 8)");
        range("often(v, 0, 1, 0, 0)", 1, 8, GONE + OUTSIDE, (x, v) -> x.often(v, 0, 1, 0, 0));
        due.sentence("Promise 29", "OUTSIDE: r lots (1 to 8)");
        range("often(8, 8, v, 8, 1)", 1, 8, GONE + OUTSIDE, (x, v) -> x.often(8, 8, v, 8, 1));
        due.sentence("Promise 29", "OUTSIDE: n names each (0 to m)");
        for (int m = 1; m <= 8; m++) {
            int names = m;
            range("often(" + m + ", v, 8, 4, 0)", 0, m, GONE + OUTSIDE, (x, v) -> x.often(names, v, 8, 4, 0));
        }
        due.sentence("Promise 29", "OUTSIDE: is drawn k times (0 to 8)");
        range("often(8, 3, 8, v, 0)", 0, 8, GONE + OUTSIDE, (x, v) -> x.often(8, 3, 8, v, 0));
        range("often(1, 0, 1, v, 1)", 0, 8, GONE + OUTSIDE, (x, v) -> x.often(1, 0, 1, v, 1));
        due.sentence("Promise 29", "OUTSIDE: by part: 0 the upper, 1 the lower number");
        range("often(2, 1, 2, 1, v)", 0, 1, GONE + OUTSIDE, (x, v) -> x.often(2, 1, 2, 1, v));
        due.is("a refused one", new StraitFleet().often(0, 0, 1, 0, 0), -1000000000000000002L);
    }

    private static void rolls() {
        due.sentence("Promise 30", "OUTSIDE: the NAMES 0 to 255");
        range("roll(v, 8)", 0, 255, OUTSIDE, (x, v) -> x.roll(v, 8));
        due.sentence("Promise 30", "OUTSIDE: how many 0 to 8");
        range("roll(0, v)", 0, 8, OUTSIDE, (x, v) -> x.roll(0, v));
        due.sentence("Promise 30", "OUTSIDE: no fewer than can be read");
        for (int names = 0; names < 256; names++) {
            int read = names;
            int many = Integer.bitCount(names);
            due.is("roll(" + names + ", " + many + ")", new StraitFleet().roll(names, many), 1);
            refused("roll(" + names + ", " + (many - 1) + ")", OUTSIDE, x -> x.roll(read, many - 1));
        }
        due.sentence("Promise 30", "FULL: ROLLS, 6 at most");
        refused("a seventh roll(0, 0)", SEASON, 6, FULL, x -> x.roll(0, 0));
        refused("a seventh roll(255, 8)", SEASON, 6, FULL, x -> x.roll(255, 8));
        due.is("a sixth roll", made(SEASON, 5).roll(0, 0), 6);
        due.sentence("Promise 30", "OUTSIDE first, then FULL");
        refused("a seventh roll(256, 8)", SEASON, 6, OUTSIDE, x -> x.roll(256, 8));
        refused("a seventh roll(-1, 8)", SEASON, 6, OUTSIDE, x -> x.roll(-1, 8));
        refused("a seventh roll(0, 9)", SEASON, 6, OUTSIDE, x -> x.roll(0, 9));
        refused("a seventh roll(3, 1)", SEASON, 6, OUTSIDE, x -> x.roll(3, 1));
        due.sentence("Promise 32", "OUTSIDE");
        range("twice(v)", 0, 1, OUTSIDE, (x, v) -> x.twice(v));
    }

    private static void yearsAndImages() {
        due.sentence("Promise 34", "UNKNOWN");
        noShip("years(v, 0, 1, 0)", (x, v) -> x.years(v, 0, 1, 0));
        refused("years(4, -1, 0, 3)", UNKNOWN, x -> x.years(4, -1, 0, 3));
        due.sentence("Promise 34", "OUTSIDE: a seed (0 to 9999)");
        for (int what = 0; what < 3; what++) {
            int w = what;
            range("years(0, v, 1, " + w + ")", 0, 9999, OUTSIDE, (x, v) -> x.years(0, v, 1, w));
        }
        due.sentence("Promise 34", "OUTSIDE: n years (1 to 99)");
        for (int what = 0; what < 3; what++) {
            int w = what;
            range("years(0, 0, v, " + w + ")", 1, 99, OUTSIDE, (x, v) -> x.years(0, 0, v, w));
        }
        due.sentence("Promise 34", "OUTSIDE: what, 0 to 2");
        range("years(0, 0, 1, v)", 0, 2, OUTSIDE, (x, v) -> x.years(0, 0, 1, v));
        due.sentence("Promise 35", "OUTSIDE: an IMAGE (0, 1)");
        range("image(v)", 0, 1, OUTSIDE, (x, v) -> x.image(v));
        due.sentence("Promise 36", "OUTSIDE");
        for (int v : Beyond.range(0, 1)) {
            refused("restore(" + v + ")", OUTSIDE, x -> x.restore(v));
            due.is("restore(" + v + ") where none was kept", new StraitFleet().restore(v), OUTSIDE);
        }
        due.sentence("Promise 36", "STATE: it was not");
        refused("restore(1)", STATE, x -> x.restore(1));
        due.is("restore(0) of a new one", new StraitFleet().restore(0), STATE);
        due.is("restore(1) of a new one", new StraitFleet().restore(1), STATE);
    }

    private static void told() {
        due.sentence("Promise 37", "OUTSIDE: a number that nothing is told by");
        int[] numbers = {
            MIN, MIN + 1, MIN + 9, -1000, -256, -100, -20, -2, -1, 14, 15, 16, 17, 18, 19, 28, 29, 36, 37, 38, 39, 40,
            50, 64, 98, 99, 124, 125, 130, 199, 200, 256, 999, 1000, 65536, MAX - 1, MAX,
        };
        for (int v : numbers) {
            refused("told(" + v + ")", OUTSIDE, x -> x.told(v));
        }
        due.sentence("Promise 37", "20 on DRAWN of NAMES aboard: OUTSIDE of another");
        int[] ashore = {0, 2, 3, 5, 7};
        for (int name : ashore) {
            refused("told(" + (20 + name) + ")", OUTSIDE, x -> x.told(20 + name));
        }
        due.sentence("Promise 37", "30 on CARGO of SHIPS: OUTSIDE of another");
        refused("told(34)", OUTSIDE, x -> x.told(34));
        refused("told(35)", OUTSIDE, x -> x.told(35));
    }
}
