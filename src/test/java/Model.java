import java.util.ArrayList;
import java.util.List;
import java.util.Map;
import java.util.TreeMap;
import java.util.TreeSet;

/**
 * The document told a second time, in its own words and without care for room or speed: each answer is found by
 * trying all that can be. It shares no code with the class; where words are unclear, it reads them as NOTES.md says.
 */
final class Model {
    private static final int UNKNOWN = -1, OUTSIDE = -2, STATE = -3, FULL = -4, NO = -5, NONE = -6;
    private static final long GONE = -1000000000000000000L;
    private static final int[] LEAST = {1, 0, 0, 0, 0, 0, 0, 0};
    private static final int[] MOST = {9, 99, 20, 60, 99, 99, 99, 9999};

    /** All but the pad. Ships are {where, men, straw, cargo}, offers {premium, pays}, rolls {names, many}. */
    private static final class All {
        final TreeMap<Integer, int[]> ships = new TreeMap<>();
        final TreeMap<Integer, int[]> offers = new TreeMap<>();
        final TreeMap<Integer, Integer> names = new TreeMap<>();
        final List<int[]> rolls = new ArrayList<>();
        final int[] terms = {6, 10, 1, 20, 1, 50, 0, 1};
        final int[] sums = new int[3];
        String tide = "0";

        All copy() {
            All other = new All();
            ships.forEach((k, v) -> other.ships.put(k, v.clone()));
            offers.forEach((k, v) -> other.offers.put(k, v.clone()));
            other.names.putAll(names);
            rolls.forEach(v -> other.rolls.add(v.clone()));
            System.arraycopy(terms, 0, other.terms, 0, terms.length);
            System.arraycopy(sums, 0, other.sums, 0, sums.length);
            other.tide = tide;
            return other;
        }
    }

    private All all = new All();
    private final Map<Integer, All> images = new TreeMap<>();
    private String pad = "";

    // ---- 1 ships, tides, seasons

    int ship(int ship, int men, int straw, int cargo) {
        if (ship < 0 || ship > 5) return UNKNOWN;
        if (men < 1 || men > 30 || straw < 0 || straw > 9 || cargo < 0 || cargo > 999) return OUTSIDE;
        all.ships.put(ship, new int[] {0, men, straw, cargo});
        return all.ships.size();
    }

    int scrap(int ship) {
        return all.ships.remove(ship) == null ? UNKNOWN : all.ships.size();
    }

    int set(int which, int v) {
        if (which < 0 || which > 7 || v < LEAST[which] || v > MOST[which]) return OUTSIDE;
        int was = all.terms[which];
        all.terms[which] = v;
        return was;
    }

    int say(int sign) {
        if (sign < 33 || sign > 126) return OUTSIDE;
        if (pad.length() == 60) return FULL;
        pad += (char) sign;
        return pad.length();
    }

    int wipe() {
        int were = pad.length();
        pad = "";
        return were;
    }

    int fault(int how) {
        if (how != 0 && how != 1) return OUTSIDE;
        if (pad.matches(how == 0 ? "[0-9]{1,24}" : "([A-F][TWC]|[.])*")) return NONE;
        // the longest beginning that some tide or season begins with
        int good = 0;
        while (good < pad.length() && begins(how, pad.substring(0, good + 1))) good++;
        return good;
    }

    private static boolean begins(int how, String text) {
        return text.matches(how == 0 ? "[0-9]{0,24}" : "([A-F][TWC]|[.])*[A-F]?");
    }

    int tide() {
        if (fault(0) != NONE) return NO;
        all.tide = pad;
        return wipe();
    }

    private List<String> parts() {
        List<String> parts = new ArrayList<>();
        for (String rest = pad; !rest.isEmpty(); ) {
            int signs = rest.charAt(0) == '.' ? 1 : 2;
            parts.add(rest.substring(0, signs));
            rest = rest.substring(signs);
        }
        return parts;
    }

    /** Carries the season out on what it is given; {part, why} of the first that can not be, or null. */
    private int[] carryOut(All on) {
        int hour = 0;
        int part = 0;
        for (String order : parts()) {
            if (order.equals(".")) {
                hour++;
            } else {
                int[] ship = on.ships.get(order.charAt(0) - 'A');
                if (ship == null) return new int[] {part, 1};
                if (ship[0] != 0) return new int[] {part, 2};
                goes(on, ship, order.charAt(1), hour);
            }
            part++;
        }
        return null;
    }

    private static void goes(All on, int[] ship, char side, int hour) {
        int menBefore = ship[1];
        int cargoBefore = ship[3];
        if (side == 'T') {
            for (int tooth = 0; tooth < on.terms[0]; tooth++) {
                if (ship[2] > 0) ship[2]--;
                else if (ship[1] > 0) ship[1]--;
            }
            if (ship[1] == 0) ship[3] = 0;
        } else if (side == 'W') {
            on.terms[7] = (75 * on.terms[7] + 74) % 65537;
            if (on.terms[7] % 10 < digit(on, hour)) ship[1] = ship[2] = ship[3] = 0;
        } else {
            on.sums[2] += on.terms[2] * on.terms[3] * ship[1];
        }
        ship[0] = ship[1] == 0 ? 2 : 1;
        on.sums[0] += menBefore - ship[1];
        on.sums[1] += cargoBefore - ship[3];
    }

    private static int digit(All on, int hour) {
        return on.tide.charAt(hour % on.tide.length()) - '0';
    }

    int judge(int what) {
        if (what != 0 && what != 1) return OUTSIDE;
        if (fault(1) != NONE) return NO;
        int[] wrong = carryOut(all.copy());
        return wrong == null ? NONE : wrong[what];
    }

    int state(int ship, int what) {
        if (!all.ships.containsKey(ship)) return UNKNOWN;
        return what < 0 || what > 2 ? OUTSIDE : all.ships.get(ship)[what];
    }

    int behind(int ship, int what) {
        if (!all.ships.containsKey(ship)) return UNKNOWN;
        if (what < 0 || what > 2) return OUTSIDE;
        if (fault(1) != NONE) return NO;
        All then = all.copy();
        return carryOut(then) != null ? NO : then.ships.get(ship)[what];
    }

    int done() {
        if (fault(1) != NONE) return NO;
        All then = all.copy();
        if (carryOut(then) != null) return NO;
        int parts = parts().size();
        all = then;
        pad = "";
        return parts;
    }

    int sum(int what) {
        return what < 0 || what > 2 ? OUTSIDE : all.sums[what];
    }

    // ---- 2 choices

    /** What is lost and paid by a side, if the whirl takes the ship or does not. */
    private int cost(int[] ship, int side, boolean taken) {
        if (side == 2) return ship[1] * all.terms[2] * all.terms[3];
        if (side == 1) return taken ? ship[1] * all.terms[1] + ship[3] : 0;
        int straw = Math.min(ship[2], all.terms[0]);
        int men = Math.min(ship[1], all.terms[0] - straw);
        return men * all.terms[1] + (ship[1] - men == 0 ? ship[3] : 0);
    }

    private int meanOf(int[] ship, int side, int hour) {
        int tenths = digit(all, hour);
        int mean = 0;
        for (int tenth = 0; tenth < 10; tenth++) mean += cost(ship, side, tenth < tenths);
        return mean;
    }

    private int worstOf(int[] ship, int side, int hour) {
        int most = 0;
        for (int tenth = 0; tenth < 10; tenth++) most = Math.max(most, cost(ship, side, tenth < digit(all, hour)));
        return most;
    }

    private int best(int[] ship, int hour) {
        int least = Integer.MAX_VALUE;
        int best = -1;
        for (int side = 0; side < 3; side++) {
            if (meanOf(ship, side, hour) < least) {
                least = meanOf(ship, side, hour);
                best = side;
            }
        }
        return best;
    }

    private static boolean hour(int hour) {
        return hour >= 0 && hour <= 999;
    }

    int mean(int ship, int side, int hour) {
        if (!all.ships.containsKey(ship)) return UNKNOWN;
        return side < 0 || side > 2 || !hour(hour) ? OUTSIDE : meanOf(all.ships.get(ship), side, hour);
    }

    int worst(int ship, int side, int hour) {
        if (!all.ships.containsKey(ship)) return UNKNOWN;
        return side < 0 || side > 2 || !hour(hour) ? OUTSIDE : worstOf(all.ships.get(ship), side, hour);
    }

    int choice(int ship, int hour) {
        if (!all.ships.containsKey(ship)) return UNKNOWN;
        return hour(hour) ? best(all.ships.get(ship), hour) : OUTSIDE;
    }

    int held(int ship, int hour, int what) {
        if (!all.ships.containsKey(ship)) return UNKNOWN;
        if (hour < 0 || hour > 976 || what < 0 || what > 2) return OUTSIDE;
        int[] s = all.ships.get(ship);
        int[] found = null;
        for (int h = hour; h <= hour + 23; h++) {
            int side = best(s, h);
            int mean = meanOf(s, side, h) + 10 * all.terms[4] * (h - hour);
            if (found == null || mean < found[1]) found = new int[] {h, mean, side};
        }
        return found[what];
    }

    // ---- 3 fleets, captains, insurers

    private List<Integer> harbour() {
        List<Integer> in = new ArrayList<>();
        all.ships.forEach((k, v) -> {
            if (v[0] == 0) in.add(k);
        });
        return in;
    }

    /** Every choice as {mean, worst, side of each ship in the harbour ..}, the first by ships and sides first. */
    private List<int[]> choices(int hour) {
        List<Integer> in = harbour();
        List<int[]> found = new ArrayList<>();
        int many = 1;
        for (int i = 0; i < in.size(); i++) many *= 3;
        for (int n = 0; n < many; n++) {
            int[] choice = new int[2 + in.size()];
            int rest = n;
            for (int i = in.size() - 1; i >= 0; i--) {
                choice[2 + i] = rest % 3;
                rest /= 3;
                choice[0] += meanOf(all.ships.get(in.get(i)), choice[2 + i], hour);
                choice[1] += worstOf(all.ships.get(in.get(i)), choice[2 + i], hour);
            }
            found.add(choice);
        }
        return found;
    }

    int bound(int hour, int worst, int ship) {
        if (ship != -1 && !harbour().contains(ship)) return UNKNOWN;
        if (!hour(hour) || worst < 0 || worst > 99999) return OUTSIDE;
        int[] found = null;
        for (int[] c : choices(hour)) {
            if (c[1] <= worst && (found == null || c[0] < found[0])) found = c;
        }
        if (found == null) return NONE;
        return ship == -1 ? found[0] : found[2 + harbour().indexOf(ship)];
    }

    int line(int hour, int i, int what) {
        if (!hour(hour) || i < -1 || what < 0 || what > 1) return OUTSIDE;
        // the least worst of each mean; then those whose worst is below that of every lesser mean
        TreeMap<Integer, Integer> worsts = new TreeMap<>();
        for (int[] c : choices(hour)) worsts.merge(c[0], c[1], Math::min);
        List<int[]> line = new ArrayList<>();
        worsts.forEach((mean, worst) -> {
            if (worsts.headMap(mean).values().stream().allMatch(w -> w > worst)) line.add(new int[] {mean, worst});
        });
        if (i == -1) return line.size();
        return i < line.size() ? line.get(i)[what] : NONE;
    }

    int convoy(int hour, int what) {
        if (!hour(hour) || what < 0 || what > 1) return OUTSIDE;
        int[] found = null;
        for (int side = 0; side < 3; side++) {
            int mean = 0;
            for (int ship : harbour()) mean += meanOf(all.ships.get(ship), side, hour);
            if (found == null || mean < found[1]) found = new int[] {side, mean};
        }
        return found[what];
    }

    /** What the captain gets, if the whirl takes the ship or does not. */
    private int gets(int[] ship, int side, boolean taken, int head) {
        int less = side == 2 ? all.terms[3] : 0;
        if (ship[0] == 2) return -less;
        int men = ship[1];
        if (side == 0) men -= Math.min(men, all.terms[0] - Math.min(ship[2], all.terms[0]));
        boolean lost = side == 0 && men == 0 || side == 1 && taken;
        return lost ? 0 : all.terms[5] + head * men - less;
    }

    private int captains(int[] ship, int hour, int head) {
        int best = -1;
        int most = Integer.MIN_VALUE;
        for (int side = 0; side < 3; side++) {
            int mean = 0;
            for (int tenth = 0; tenth < 10; tenth++) mean += gets(ship, side, tenth < digit(all, hour), head);
            if (mean > most) {
                most = mean;
                best = side;
            }
        }
        return best;
    }

    int captain(int ship, int hour) {
        if (!all.ships.containsKey(ship)) return UNKNOWN;
        return hour(hour) ? captains(all.ships.get(ship), hour, all.terms[6]) : OUTSIDE;
    }

    int persuaded(int ship, int hour) {
        if (!all.ships.containsKey(ship)) return UNKNOWN;
        if (!hour(hour)) return OUTSIDE;
        int[] s = all.ships.get(ship);
        for (int head = 0; head <= 99; head++) {
            if (captains(s, hour, head) == best(s, hour)) return head;
        }
        return NONE;
    }

    int offer(int offer, int premium, int pays) {
        if (offer < 0 || offer > 3 || premium < 0 || premium > 999 || pays < 0 || pays > 9999) return OUTSIDE;
        all.offers.put(offer, new int[] {premium, pays});
        return all.offers.size();
    }

    int noOffers() {
        int were = all.offers.size();
        all.offers.clear();
        return were;
    }

    int insured(int ship, int hour, int what) {
        if (!all.ships.containsKey(ship)) return UNKNOWN;
        if (!hour(hour) || what < 0 || what > 2) return OUTSIDE;
        int[] s = all.ships.get(ship);
        int[] found = null;
        for (int set = 0; set < 16; set++) {
            int premiums = 0;
            int pays = 0;
            boolean there = true;
            for (int offer = 0; offer < 4; offer++) {
                if ((set >> offer & 1) == 0) continue;
                there &= all.offers.containsKey(offer);
                premiums += there ? all.offers.get(offer)[0] : 0;
                pays += there ? all.offers.get(offer)[1] : 0;
            }
            int mean = 0;
            int worst = 0;
            for (int tenth = 0; tenth < 10; tenth++) {
                boolean taken = tenth < digit(all, hour);
                int cost = cost(s, 1, taken) + premiums - (taken ? pays : 0);
                mean += cost;
                worst = Math.max(worst, cost);
            }
            if (there && (found == null || mean + 1000000 < found[0])) found = new int[] {mean + 1000000, set, worst};
        }
        return found[what];
    }

    // ---- 4 lots, rolls

    int aboard(int name, int drawn) {
        if (name < 0 || name > 7) return UNKNOWN;
        if (drawn < 0 || drawn > 9) return OUTSIDE;
        all.names.put(name, drawn);
        return all.names.size();
    }

    int ashore(int name) {
        return all.names.remove(name) == null ? UNKNOWN : all.names.size();
    }

    /** Every set of n that leaves out none who has drawn less often than one in it is as likely. */
    long lot(int n, int name, int part) {
        if (!all.names.containsKey(name)) return GONE + UNKNOWN;
        if (n < 1 || n > 8 || n > all.names.size() || part < 0 || part > 1) return GONE + OUTSIDE;
        long with = 0;
        long sets = 0;
        for (int set = 0; set < 256; set++) {
            if (Integer.bitCount(set) == n && fair(set)) {
                sets++;
                with += set >> name & 1;
            }
        }
        return lowest(with, sets, part);
    }

    private boolean fair(int set) {
        int most = -1;
        int least = 10;
        for (int name = 0; name < 8; name++) {
            boolean in = (set >> name & 1) == 1;
            if (!all.names.containsKey(name)) {
                if (in) return false;
            } else if (in) {
                most = Math.max(most, all.names.get(name));
            } else {
                least = Math.min(least, all.names.get(name));
            }
        }
        return most <= least;
    }

    /** The lower numbers here have no prime above 7. */
    private static long lowest(long upper, long lower, int part) {
        if (upper == 0) return part;
        for (int prime : new int[] {2, 3, 5, 7}) {
            while (upper % prime == 0 && lower % prime == 0) {
                upper /= prime;
                lower /= prime;
            }
        }
        return part == 0 ? upper : lower;
    }

    /** In how many of all ways one is drawn so often, lot by lot. */
    long often(int m, int n, int r, int k, int part) {
        if (m < 1 || m > 8 || n < 0 || n > m || r < 1 || r > 8 || k < 0 || k > 8 || part < 0 || part > 1) {
            return GONE + OUTSIDE;
        }
        long[] ways = {1};
        for (int lot = 0; lot < r; lot++) {
            long[] next = new long[ways.length + 1];
            for (int times = 0; times < ways.length; times++) {
                next[times] += ways[times] * (m - n);
                next[times + 1] += ways[times] * n;
            }
            ways = next;
        }
        long upper = 0;
        long lower = 0;
        for (int times = 0; times < ways.length; times++) {
            lower += ways[times];
            upper += times >= k ? ways[times] : 0;
        }
        return lowest(upper, lower, part);
    }

    int roll(int names, int many) {
        if (names < 0 || names > 255 || many < 0 || many > 8 || many < Integer.bitCount(names)) return OUTSIDE;
        if (all.rolls.size() == 6) return FULL;
        all.rolls.add(new int[] {names, many});
        return all.rolls.size();
    }

    int forget() {
        int were = all.rolls.size();
        all.rolls.clear();
        return were;
    }

    /** In the words of the document: how many rolls it is read on, on how many others there is room. */
    int twice(int how) {
        if (how < 0 || how > 1) return OUTSIDE;
        TreeSet<Integer> found = new TreeSet<>();
        for (int name = 0; name < 8; name++) {
            int read = 0;
            int room = 0;
            for (int[] roll : all.rolls) {
                boolean here = (roll[0] >> name & 1) == 1;
                read += here ? 1 : 0;
                room += !here && roll[1] > Integer.bitCount(roll[0]) ? 1 : 0;
            }
            boolean perhaps = read == 1 && room >= 1 || read == 0 && room >= 2;
            if (read >= 2 || how == 1 && perhaps) found.add(name);
        }
        int bits = 0;
        for (int name : found) bits += 1 << name;
        return bits;
    }

    long burnt() {
        long ways = 1;
        for (int[] roll : all.rolls) {
            int filled = 0;
            for (int set = 0; set < 256; set++) {
                if ((set & roll[0]) == roll[0] && Integer.bitCount(set) == roll[1]) filled++;
            }
            ways *= filled;
        }
        return ways;
    }

    int years(int ship, int seed, int n, int what) {
        if (!all.ships.containsKey(ship)) return UNKNOWN;
        if (seed < 0 || seed > 9999 || n < 1 || n > 99 || what < 0 || what > 2) return OUTSIDE;
        int[] s = all.ships.get(ship);
        int[] told = new int[3];
        long y = seed;
        for (int year = 0; year < n; year++) {
            y = (75 * y + 74) % 65537;
            boolean taken = (y / 24) % 10 < digit(all, (int) (y % 24));
            told[0] += cost(s, 1, taken);
            told[1] += cost(s, 0, taken);
            told[2] += taken ? 1 : 0;
        }
        return told[what];
    }

    int image(int n) {
        if (n < 0 || n > 1) return OUTSIDE;
        images.put(n, all.copy());
        return 1;
    }

    int restore(int n) {
        if (n < 0 || n > 1) return OUTSIDE;
        if (!images.containsKey(n)) return STATE;
        all = images.get(n).copy();
        return 1;
    }

    int told(int what) {
        if (what == 0) return pad.length();
        if (what == 1) return bits(all.ships);
        if (what >= 2 && what <= 9) return all.terms[what - 2];
        if (what == 10) return all.tide.length();
        if (what == 11) return bits(all.offers);
        if (what == 12) return bits(all.names);
        if (what == 13) return all.rolls.size();
        if (what >= 20 && what < 28 && all.names.containsKey(what - 20)) return all.names.get(what - 20);
        if (what >= 30 && what < 36 && all.ships.containsKey(what - 30)) return all.ships.get(what - 30)[3];
        return what >= 100 && what <= 123 ? digit(all, what - 100) : OUTSIDE;
    }

    private static int bits(Map<Integer, ?> there) {
        int bits = 0;
        for (int key : there.keySet()) bits += 1 << key;
        return bits;
    }
}
