import java.util.ArrayList;
import java.util.List;
import java.util.Random;
import java.util.TreeMap;

/** Random fleets, crews and rolls, each answer against one that is reckoned by trying all that can be. */
public final class BruteForceTest {
    private static final int NONE = -6;
    private static final int ASKED = 150; // pairs of a line, so that an object is asked no more than 512 times
    private static final Due due = new Due("BruteForceTest");
    private static final Random random = new Random(20261118);

    public static void main(String[] args) {
        for (int round = 0; round < 400; round++) {
            boolean small = round % 4 == 0;
            int hour = random.nextInt(1000);
            fleets(anyFleet(small), hour);
            line(anyFleet(small), hour);
            StraitFleet x = anyFleet(small);
            for (int ship = round % 2; ship < 6; ship += 2) {
                if ((x.told(1) >> ship & 1) == 1) {
                    held(x, ship, random.nextInt(977));
                    insured(x, ship, hour);
                }
            }
            rolls(new StraitFleet());
        }
        for (int round = 0; round < 300; round++) {
            lots();
        }
        often();
        seasons();
        due.close();
    }

    /** Small numbers make many choices alike. */
    private static StraitFleet anyFleet(boolean small) {
        StringBuilder digits = new StringBuilder();
        for (int i = random.nextInt(24); i >= 0; i--) {
            digits.append(random.nextInt(10));
        }
        StraitFleet x = Due.withTide(digits.toString());
        x.set(0, 1 + random.nextInt(9));
        x.set(1, random.nextInt(small ? 3 : 100));
        x.set(2, random.nextInt(small ? 2 : 21));
        x.set(3, random.nextInt(small ? 5 : 61));
        x.set(4, random.nextInt(small ? 3 : 100));
        x.set(7, random.nextInt(10000));
        for (int ship = 0; ship < 6; ship++) {
            if (random.nextInt(4) > 0) {
                x.ship(ship, 1 + random.nextInt(small ? 8 : 30), random.nextInt(10), random.nextInt(small ? 4 : 1000));
            }
        }
        for (int ship = 0; ship < 6; ship++) {
            if (random.nextInt(5) == 0 && x.state(ship, 0) == 0) {
                Due.text(x, (char) ('A' + ship) + "TWC".substring(random.nextInt(3)).substring(0, 1)).done();
            }
        }
        for (int offer = 0; offer < 4; offer++) {
            if (random.nextBoolean()) {
                x.offer(offer, random.nextInt(small ? 3 : 1000), random.nextInt(small ? 6 : 10000));
            }
        }
        return x;
    }

    private static int[] moored(StraitFleet x) {
        int[] ships = new int[6];
        int count = 0;
        for (int ship = 0; ship < 6; ship++) {
            if (x.state(ship, 0) == 0) {
                ships[count++] = ship;
            }
        }
        return java.util.Arrays.copyOf(ships, count);
    }

    /** Sides of each ship, MEAN and WORST last, in the order of ships and sides. */
    private static List<int[]> choices(StraitFleet x, int hour) {
        List<int[]> all = new ArrayList<>();
        all.add(new int[8]);
        for (int ship : moored(x)) {
            List<int[]> more = new ArrayList<>();
            int[] mean = {x.mean(ship, 0, hour), x.mean(ship, 1, hour), x.mean(ship, 2, hour)};
            int[] worst = {x.worst(ship, 0, hour), x.worst(ship, 1, hour), x.worst(ship, 2, hour)};
            for (int[] sofar : all) {
                for (int side = 0; side < 3; side++) {
                    int[] choice = sofar.clone();
                    choice[ship] = side;
                    choice[6] += mean[side];
                    choice[7] += worst[side];
                    more.add(choice);
                }
            }
            all = more;
        }
        return all;
    }

    private static void fleets(StraitFleet x, int hour) {
        List<int[]> all = choices(x, hour);
        for (int round = 0; round < 6; round++) {
            int[] some = all.get(random.nextInt(all.size()));
            int worst = Math.min(99999, round == 0 ? 99999 : Math.max(0, some[7] - random.nextInt(2)));
            int[] best = null;
            for (int[] c : all) {
                if (c[7] <= worst && (best == null || c[6] < best[6])) {
                    best = c;
                }
            }
            due.is("18: mean", x.bound(hour, worst, -1), best == null ? NONE : best[6]);
            for (int ship : moored(x)) {
                due.is("18: side", x.bound(hour, worst, ship), best == null ? NONE : best[ship]);
            }
        }
        int[] together = new int[3];
        for (int side = 0; side < 3; side++) {
            for (int ship : moored(x)) {
                together[side] += x.mean(ship, side, hour);
            }
        }
        int least = Math.min(together[0], Math.min(together[1], together[2]));
        due.is("20: mean", x.convoy(hour, 1), least);
        due.is("20: side", x.convoy(hour, 0), together[0] == least ? 0 : together[1] == least ? 1 : 2);
    }

    private static void line(StraitFleet x, int hour) {
        List<int[]> all = choices(x, hour);
        TreeMap<Integer, Integer> line = new TreeMap<>();
        for (int[] c : all) {
            boolean stays = true;
            for (int[] other : all) {
                boolean behind = other[6] <= c[6] && other[7] < c[7] || other[7] <= c[7] && other[6] < c[6];
                stays &= !behind;
            }
            if (stays) {
                line.put(c[6], c[7]);
            }
        }
        due.is("19: how many", x.line(hour, -1, 0), line.size());
        int i = 0;
        int from = line.size() <= ASKED ? 0 : random.nextInt(line.size() - ASKED);
        for (int mean : line.keySet()) {
            if (i >= from && i < from + ASKED) {
                due.is("19: mean", x.line(hour, i, 0), mean);
                due.is("19: worst", x.line(hour, i, 1), line.get(mean));
            }
            i++;
        }
        due.is("19: none", x.line(hour, i, 0), NONE);
    }

    private static void held(StraitFleet x, int ship, int from) {
        int best = -1;
        int least = 0;
        int side = 0;
        int wait = x.told(6);
        for (int hour = from; hour <= from + 23; hour++) {
            for (int s = 0; s < 3; s++) {
                int cost = x.mean(ship, s, hour) + 10 * wait * (hour - from);
                if (best < 0 || cost < least) {
                    best = hour;
                    least = cost;
                    side = s;
                }
            }
        }
        due.is("17: hour", x.held(ship, from, 0), best);
        due.is("17: mean", x.held(ship, from, 1), least);
        due.is("17: side", x.held(ship, from, 2), side);
    }

    /** The offers are made anew, as their numbers can not be asked for; every set of them is tried. */
    private static void insured(StraitFleet x, int ship, int hour) {
        int there = x.told(11);
        int[] premium = new int[4];
        int[] pays = new int[4];
        x.noOffers();
        for (int offer = 0; offer < 4; offer++) {
            if ((there >> offer & 1) == 1) {
                premium[offer] = random.nextInt(200);
                pays[offer] = random.nextInt(500);
                x.offer(offer, premium[offer], pays[offer]);
            }
        }
        int digit = x.told(100 + hour % x.told(10));
        int meanByW = x.mean(ship, 1, hour);
        int worstByW = x.worst(ship, 1, hour);
        int best = -1;
        int least = 0;
        int worst = 0;
        for (int set = 0; set < 16; set++) {
            if ((set & ~there) == 0) {
                int paid = 0;
                int got = 0;
                for (int offer = 0; offer < 4; offer++) {
                    paid += (set >> offer & 1) * premium[offer];
                    got += (set >> offer & 1) * pays[offer];
                }
                int mean = meanByW + 10 * paid - digit * got;
                if (best < 0 || mean < least) {
                    best = set;
                    least = mean;
                    worst = Math.max(paid, digit > 0 ? worstByW + paid - got : 0);
                }
            }
        }
        due.is("25: mean", x.insured(ship, hour, 0), least + 1000000);
        due.is("25: set", x.insured(ship, hour, 1), best);
        due.is("25: worst", x.insured(ship, hour, 2), worst);
    }

    private static void rolls(StraitFleet x) {
        int count = random.nextInt(7);
        int[] read = new int[count];
        int[] many = new int[count];
        long ways = 1;
        for (int i = 0; i < count; i++) {
            read[i] = random.nextInt(256) & random.nextInt(256) & random.nextInt(256);
            many[i] = Math.min(8, Integer.bitCount(read[i]) + random.nextInt(3));
            x.roll(read[i], many[i]);
            int filled = 0;
            for (int set = 0; set < 256; set++) {
                filled += (set & read[i]) == read[i] && Integer.bitCount(set) == many[i] ? 1 : 0;
            }
            ways *= filled;
        }
        due.is("33: burnt", x.burnt(), ways);
        int surely = 0;
        int perhaps = 0;
        for (int name = 0; name < 8; name++) {
            int sure = 0;
            int may = 0;
            for (int i = 0; i < count; i++) {
                boolean can = (read[i] | 1 << name) == read[i] || Integer.bitCount(read[i] | 1 << name) <= many[i];
                sure += read[i] >> name & 1;
                may += can ? 1 : 0;
            }
            surely |= sure >= 2 ? 1 << name : 0;
            perhaps |= may >= 2 ? 1 << name : 0;
        }
        due.is("32: surely", x.twice(0), surely);
        due.is("32: perhaps", x.twice(1), perhaps);
    }

    /** Every set of n that holds no one who has drawn more often than someone left out is as likely. */
    private static void lots() {
        StraitFleet x = new StraitFleet();
        int[] drawn = new int[8];
        int there = 1 + random.nextInt(255);
        for (int name = 0; name < 8; name++) {
            drawn[name] = random.nextInt(4);
            if ((there >> name & 1) == 1) {
                x.aboard(name, drawn[name]);
            }
        }
        int n = 1 + random.nextInt(Integer.bitCount(there));
        long[] with = new long[8];
        long all = 0;
        for (int set = 0; set < 256; set++) {
            if ((set & ~there) == 0 && Integer.bitCount(set) == n && fair(set, there, drawn)) {
                all++;
                for (int name = 0; name < 8; name++) {
                    with[name] += set >> name & 1;
                }
            }
        }
        for (int name = 0; name < 8; name++) {
            if ((there >> name & 1) == 1) {
                fractionIs("28: lot", x.lot(n, name, 0), x.lot(n, name, 1), with[name], all);
            }
        }
    }

    private static boolean fair(int set, int there, int[] drawn) {
        for (int in = 0; in < 8; in++) {
            for (int out = 0; out < 8; out++) {
                boolean both = (set >> in & 1) == 1 && ((there & ~set) >> out & 1) == 1;
                if (both && drawn[in] > drawn[out]) {
                    return false;
                }
            }
        }
        return true;
    }

    private static void often() {
        for (int m = 1; m <= 8; m++) {
            for (int n = 0; n <= m; n++) {
                StraitFleet x = new StraitFleet();
                for (int r = 1; r <= 8; r++) {
                    for (int k = 0; k <= 8; k++) {
                        long lower = 1;
                        for (int i = 0; i < r; i++) {
                            lower *= m;
                        }
                        fractionIs("29: often", x.often(m, n, r, k, 0), x.often(m, n, r, k, 1), atLeast(m, n, r, k), lower);
                    }
                }
            }
        }
    }

    private static long atLeast(int m, int n, int r, int k) {
        if (r == 0) {
            return k <= 0 ? 1 : 0;
        }
        return n * atLeast(m, n, r - 1, k - 1) + (m - n) * atLeast(m, n, r - 1, k);
    }

    private static void fractionIs(String call, long upper, long lower, long wantUpper, long wantLower) {
        due.is(call + ", the value", upper * wantLower, lower * wantUpper);
        boolean lowest = lower > 0;
        for (long d = 2; d <= lower && d < 10; d++) {
            lowest &= upper % d != 0 || lower % d != 0;
        }
        due.holds(call + ", lowest terms", lowest && (upper != 0 || lower == 1));
    }

    /** Random seasons: judge, behind and done agree, and each order does what the document tells. */
    private static void seasons() {
        for (int round = 0; round < 500; round++) {
            StraitFleet x = anyFleet(round % 2 == 0);
            StringBuilder text = new StringBuilder();
            for (int i = random.nextInt(10); i > 0; i--) {
                if (random.nextInt(3) == 0) {
                    text.append('.');
                } else {
                    text.append((char) ('A' + random.nextInt(6))).append("TWC".charAt(random.nextInt(3)));
                }
            }
            season(x, text.toString());
        }
    }

    private static void season(StraitFleet x, String text) {
        int[] where = new int[6];
        int[] men = new int[6];
        int[] straw = new int[6];
        int[] cargo = new int[6];
        for (int ship = 0; ship < 6; ship++) {
            where[ship] = x.state(ship, 0);
            men[ship] = x.state(ship, 1);
            straw[ship] = x.state(ship, 2);
            cargo[ship] = x.told(30 + ship);
        }
        int[] sums = {x.sum(0), x.sum(1), x.sum(2)};
        int draw = x.told(9);
        int hour = 0;
        int part = 0;
        int why = NONE;
        for (int i = 0; i < text.length() && why == NONE; i++) {
            if (text.charAt(i) == '.') {
                hour++;
                part++;
                continue;
            }
            int s = text.charAt(i) - 'A';
            char side = text.charAt(++i);
            why = where[s] < 0 ? 1 : where[s] > 0 ? 2 : NONE;
            if (why != NONE) {
                break;
            }
            part++;
            int teeth = x.told(2);
            boolean lost = false;
            where[s] = 1;
            if (side == 'T') {
                for (int tooth = 0; tooth < teeth; tooth++) {
                    if (straw[s] > 0) {
                        straw[s]--;
                    } else if (men[s] > 0) {
                        men[s]--;
                        sums[0]++;
                    }
                }
                lost = men[s] == 0;
            } else if (side == 'W') {
                draw = (int) ((75L * draw + 74) % 65537);
                lost = draw % 10 < x.told(100 + hour % x.told(10));
            } else {
                sums[2] += men[s] * x.told(4) * x.told(5);
            }
            if (lost) {
                where[s] = 2;
                sums[0] += men[s];
                sums[1] += cargo[s];
                men[s] = 0;
                straw[s] = 0;
                cargo[s] = 0;
            }
        }
        Due.text(x, text);
        due.is("9: part of " + text, x.judge(0), why == NONE ? NONE : part);
        due.is("9: why of " + text, x.judge(1), why);
        for (int ship = 0; ship < 6; ship++) {
            if (where[ship] >= 0) {
                due.is("11: where", x.behind(ship, 0), why == NONE ? where[ship] : -5);
                due.is("11: men", x.behind(ship, 1), why == NONE ? men[ship] : -5);
                due.is("11: straw", x.behind(ship, 2), why == NONE ? straw[ship] : -5);
            }
        }
        due.is("12: done", x.done(), why == NONE ? part : -5);
        if (why == NONE) {
            due.is("12: x", x.told(9), draw);
            for (int what = 0; what < 3; what++) {
                due.is("13: sum", x.sum(what), sums[what]);
            }
            for (int ship = 0; ship < 6; ship++) {
                due.is("12: where", x.state(ship, 0), where[ship]);
                due.is("12: cargo", x.told(30 + ship), cargo[ship]);
            }
        }
    }
}
