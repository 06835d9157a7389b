import java.util.Arrays;
import java.util.Random;

/**
 * Any calls with any numbers: none throws, and those that are refused or only ask change nothing: an object that is
 * spared them is in the end as one that was not. (No object is used for more than 512 calls.)
 */
public final class AnyCallsTest {
    private static final int CALLS = 380;
    private static final Due due = new Due("AnyCallsTest");
    private static final Random random = new Random(37);
    private static final int[] EDGES = {
        Integer.MIN_VALUE, Integer.MIN_VALUE + 1, -65536, -7, -2, -1, 0, 1, 8, 9, 10, 24, 60, 61, 99, 100, 123, 124,
        255, 256, 976, 977, 999, 1000, 9999, 10000, 99999, 100000, 1 << 30, Integer.MAX_VALUE - 1, Integer.MAX_VALUE,
    };
    private static final String SIGNS = "ABCDEF.TWC.TWC0123456789!~";

    public static void main(String[] args) {
        for (int run = 0; run < 300; run++) {
            StraitFleet x = new StraitFleet();
            StraitFleet spared = new StraitFleet();
            for (int call = 0; call < CALLS; call++) {
                int which = random.nextInt(37);
                int[] v = anyNumbers(which);
                long answer = answered(x, which, v);
                boolean refused = answer < 0 && (answer >= -6 || answer < -1000000000000000000L);
                due.holds(told(which, v) + " answered " + answer, answer >= 0 || refused);
                if (!refused && changes(which)) {
                    due.is(told(which, v) + " of the one that is spared", answered(spared, which, v), answer);
                }
            }
            due.holds("run " + run + ": both are alike", seen(x).equals(seen(spared)));
        }
        due.close();
    }

    /** What a call throws is told as an answer that none may give. */
    private static long answered(StraitFleet x, int which, int[] v) {
        try {
            return call(x, which, v);
        } catch (RuntimeException e) {
            System.out.println(told(which, v) + " threw " + e);
            return -7;
        }
    }

    private static String told(int which, int[] v) {
        return "call " + which + " with " + Arrays.toString(v);
    }

    private static String seen(StraitFleet x) {
        String text = x.told(0) + " " + x.fault(0) + " " + x.fault(1) + " " + x.judge(0) + " " + x.judge(1) + " ";
        return text + Snapshot.of(x);
    }

    private static boolean changes(int which) {
        return which < 5 || which == 6 || which == 10 || which == 21 || which == 22 || which == 24 || which == 25
            || which == 28 || which == 29 || which == 33 || which == 34;
    }

    private static int any() {
        int kind = random.nextInt(8);
        return kind == 0 ? EDGES[random.nextInt(EDGES.length)] : kind == 1 ? random.nextInt(1000) : random.nextInt(9) - 1;
    }

    private static int sign() {
        return random.nextInt(20) == 0 ? any() : SIGNS.charAt(random.nextInt(SIGNS.length()));
    }

    private static int[] anyNumbers(int which) {
        int[] v = {any(), any(), any(), any(), any()};
        if (which == 3 || which == 4) {
            v[0] = sign();
            v[1] = random.nextInt(4);
        }
        return v;
    }

    private static long call(StraitFleet x, int which, int[] v) {
        switch (which) {
            case 0: return x.ship(v[0], v[1], v[2], v[3]);
            case 1: return x.scrap(v[0]);
            case 2: return x.set(v[0], v[1]);
            case 3: return x.say(v[0]);
            case 4: return v[1] == 0 ? x.wipe() : x.say(v[0]);
            case 5: return x.fault(v[0]);
            case 6: return x.tide();
            case 7: return x.judge(v[0]);
            case 8: return x.state(v[0], v[1]);
            case 9: return x.behind(v[0], v[1]);
            case 10: return x.done();
            case 11: return x.sum(v[0]);
            case 12: return x.mean(v[0], v[1], v[2]);
            case 13: return x.worst(v[0], v[1], v[2]);
            case 14: return x.choice(v[0], v[1]);
            case 15: return x.held(v[0], v[1], v[2]);
            case 16: return x.bound(v[0], v[1], v[2]);
            case 17: return x.line(v[0], v[1], v[2]);
            case 18: return x.convoy(v[0], v[1]);
            case 19: return x.captain(v[0], v[1]);
            case 20: return x.persuaded(v[0], v[1]);
            case 21: return x.offer(v[0], v[1], v[2]);
            case 22: return x.noOffers();
            case 23: return x.insured(v[0], v[1], v[2]);
            case 24: return x.aboard(v[0], v[1]);
            case 25: return x.ashore(v[0]);
            case 26: return x.lot(v[0], v[1], v[2]);
            case 27: return x.often(v[0], v[1], v[2], v[3], v[4]);
            case 28: return x.roll(v[0], v[1]);
            case 29: return x.forget();
            case 30: return x.twice(v[0]);
            case 31: return x.burnt();
            case 32: return x.years(v[0], v[1], v[2], v[3]);
            case 33: return x.image(v[0]);
            case 34: return x.restore(v[0]);
            default: return x.told(v[0]);
        }
    }
}
