import java.util.Random;

/**
 * Any calls with any numbers: none throws, and refused ones change nothing. (The looks in between are calls, too,
 * so an object is asked more than 512 times here: the class as it is does not count them.)
 */
public final class AnyCallsTest {
    private static final Due due = new Due("AnyCallsTest");
    private static final Random random = new Random(37);
    private static final int[] EDGES = {
        Integer.MIN_VALUE, Integer.MIN_VALUE + 1, -65536, -7, -2, -1, 0, 1, 8, 9, 10, 24, 60, 61, 99, 100, 123, 124,
        255, 256, 976, 977, 999, 1000, 9999, 10000, 99999, 100000, 1 << 30, Integer.MAX_VALUE - 1, Integer.MAX_VALUE,
    };
    private static final String SIGNS = "ABCDEF.TWC.TWC0123456789!~";

    public static void main(String[] args) {
        for (int run = 0; run < 60; run++) {
            StraitFleet x = new StraitFleet();
            for (int call = 0; call < 512; call++) {
                String before = Snapshot.of(x) + x.told(0);
                int which = random.nextInt(37);
                long answer;
                try {
                    answer = call(x, which);
                } catch (RuntimeException e) {
                    due.holds("call " + which + " threw " + e, false);
                    continue;
                }
                boolean refused = answer < 0 && (answer >= -6 || answer < -1000000000000000000L);
                if (refused || !changes(which)) {
                    due.holds("call " + which + " changed nothing", before.equals(Snapshot.of(x) + x.told(0)));
                }
                due.holds("call " + which + " answered " + answer, answer >= 0 || refused);
            }
        }
        due.close();
    }

    private static boolean changes(int which) {
        return which < 5 || which == 6 || which == 10 || which == 21 || which == 22 || which == 24 || which == 25
            || which == 28 || which == 29 || which == 34;
    }

    private static int any() {
        int kind = random.nextInt(8);
        return kind == 0 ? EDGES[random.nextInt(EDGES.length)] : kind == 1 ? random.nextInt(1000) : random.nextInt(9) - 1;
    }

    private static int sign() {
        return random.nextInt(20) == 0 ? any() : SIGNS.charAt(random.nextInt(SIGNS.length()));
    }

    private static long call(StraitFleet x, int which) {
        switch (which) {
            case 0: return x.ship(any(), any(), any(), any());
            case 1: return x.scrap(any());
            case 2: return x.set(any(), any());
            case 3: return x.say(sign());
            case 4: return random.nextInt(4) == 0 ? x.wipe() : x.say(sign());
            case 5: return x.fault(any());
            case 6: return x.tide();
            case 7: return x.judge(any());
            case 8: return x.state(any(), any());
            case 9: return x.behind(any(), any());
            case 10: return x.done();
            case 11: return x.sum(any());
            case 12: return x.mean(any(), any(), any());
            case 13: return x.worst(any(), any(), any());
            case 14: return x.choice(any(), any());
            case 15: return x.held(any(), any(), any());
            case 16: return x.bound(any(), any(), any());
            case 17: return x.line(any(), any(), any());
            case 18: return x.convoy(any(), any());
            case 19: return x.captain(any(), any());
            case 20: return x.persuaded(any(), any());
            case 21: return x.offer(any(), any(), any());
            case 22: return x.noOffers();
            case 23: return x.insured(any(), any(), any());
            case 24: return x.aboard(any(), any());
            case 25: return x.ashore(any());
            case 26: return x.lot(any(), any(), any());
            case 27: return x.often(any(), any(), any(), any(), any());
            case 28: return x.roll(any(), any());
            case 29: return x.forget();
            case 30: return x.twice(any());
            case 31: return x.burnt();
            case 32: return x.years(any(), any(), any(), any());
            case 33: return x.image(any());
            case 34: return x.restore(any());
            default: return x.told(any());
        }
    }
}
