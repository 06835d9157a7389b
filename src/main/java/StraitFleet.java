/** Ships before a narrow place: what each side takes, which one to choose, and who draws the short lot. */
public final class StraitFleet {
    public static final int UNKNOWN = -1, OUTSIDE = -2, STATE = -3, FULL = -4, NO = -5, NONE = -6;
    public static final long GONE = -1000000000000000000L;

    private static final int SHIPS = 6, SIDES = 3, OFFERS = 4, NAMES = 8, ROLLS = 6, IMAGES = 2;
    private static final int MOST_SIGNS = 60, MOST_DIGITS = 24, LAST_HOUR = 999, HOURS_HELD = 24;
    private static final int ALL_CHOICES = 729; // three sides for each of six ships

    private static final int BY_TEETH = 0, BY_WHIRL = 1, BY_CAPE = 2;
    private static final int IN_HARBOUR = 0, THROUGH = 1, LOST = 2;
    private static final int NO_SUCH_SHIP = 1, NOT_IN_HARBOUR = 2;

    private static final int TEETH = 0, LIFE = 1, PAY = 2, DAYS = 3, WAIT = 4, HULL = 5, HEAD = 6, DRAW = 7;
    private static final int TERMS = 8;
    private static final int[] TERM_LEAST = {1, 0, 0, 0, 0, 0, 0, 0};
    private static final int[] TERM_MOST = {9, 99, 20, 60, 99, 99, 99, 9999};
    private static final int[] TERM_AT_FIRST = {6, 10, 1, 20, 1, 50, 0, 1};

    private static final int MEN_LOST = 0, CARGO_LOST = 1, PAID = 2;

    private final Books books;
    private final Books firstImage;
    private final Books secondImage;
    private int imagesKept; // bits
    private final Pad pad;
    private final Season season;
    private final Fleet fleet;

    public StraitFleet() {
        books = new Books();
        firstImage = new Books();
        secondImage = new Books();
        imagesKept = 0;
        pad = new Pad();
        season = new Season();
        fleet = new Fleet();
    }

    // ---- 1 ships, tides, seasons

    public int ship(int ship, int men, int straw, int cargo) {
        if (!within(ship, 0, SHIPS - 1)) {
            return UNKNOWN;
        }
        if (!within(men, 1, 30) || !within(straw, 0, 9) || !within(cargo, 0, 999)) {
            return OUTSIDE;
        }
        Sea sea = books.sea;
        sea.there |= 1 << ship;
        sea.where[ship] = IN_HARBOUR;
        sea.men[ship] = men;
        sea.straw[ship] = straw;
        sea.cargo[ship] = cargo;
        return Integer.bitCount(sea.there);
    }

    public int scrap(int ship) {
        Sea sea = books.sea;
        if (!sea.has(ship)) {
            return UNKNOWN;
        }
        sea.there &= ~(1 << ship);
        return Integer.bitCount(sea.there);
    }

    public int set(int which, int v) {
        if (!within(which, 0, TERMS - 1) || !within(v, TERM_LEAST[which], TERM_MOST[which])) {
            return OUTSIDE;
        }
        int before = books.sea.terms[which];
        books.sea.terms[which] = v;
        return before;
    }

    public int say(int sign) {
        if (!within(sign, 33, 126)) {
            return OUTSIDE;
        }
        if (pad.count >= MOST_SIGNS) {
            return FULL;
        }
        pad.signs[pad.count] = sign;
        pad.count++;
        return pad.count;
    }

    public int wipe() {
        return pad.clear();
    }

    public int fault(int how) {
        if (!within(how, 0, 1)) {
            return OUTSIDE;
        }
        return how == 0 ? pad.faultAsTide() : pad.faultAsSeason();
    }

    public int tide() {
        if (pad.faultAsTide() != NONE) {
            return NO;
        }
        Sea sea = books.sea;
        sea.digits = Math.min(pad.count, MOST_DIGITS);
        for (int i = 0; i < sea.digits; i++) {
            sea.tenths[i] = pad.signs[i] - '0';
        }
        return pad.clear();
    }

    public int judge(int what) {
        if (!within(what, 0, 1)) {
            return OUTSIDE;
        }
        if (pad.faultAsSeason() != NONE) {
            return NO;
        }
        season.tryOut(pad, books.sea);
        return season.why == NONE || what == 1 ? season.why : season.parts;
    }

    public int state(int ship, int what) {
        if (!books.sea.has(ship)) {
            return UNKNOWN;
        }
        if (!within(what, 0, 2)) {
            return OUTSIDE;
        }
        return books.sea.look(ship, what);
    }

    public int behind(int ship, int what) {
        if (!books.sea.has(ship)) {
            return UNKNOWN;
        }
        if (!within(what, 0, 2)) {
            return OUTSIDE;
        }
        return seasonCanBe() ? season.sea.look(ship, what) : NO;
    }

    public int done() {
        if (!seasonCanBe()) {
            return NO;
        }
        books.sea.become(season.sea);
        pad.clear();
        return season.parts;
    }

    public int sum(int what) {
        return within(what, 0, 2) ? books.sea.sums[what] : OUTSIDE;
    }

    /** If it can, the season's own sea is as all is behind it. */
    private boolean seasonCanBe() {
        if (pad.faultAsSeason() != NONE) {
            return false;
        }
        season.tryOut(pad, books.sea);
        return season.why == NONE;
    }

    // ---- 2 choices

    public int mean(int ship, int side, int hour) {
        if (!books.sea.has(ship)) {
            return UNKNOWN;
        }
        if (!within(side, 0, SIDES - 1) || !isHour(hour)) {
            return OUTSIDE;
        }
        return books.sea.meanBy(ship, side, hour);
    }

    public int worst(int ship, int side, int hour) {
        if (!books.sea.has(ship)) {
            return UNKNOWN;
        }
        if (!within(side, 0, SIDES - 1) || !isHour(hour)) {
            return OUTSIDE;
        }
        return books.sea.worstBy(ship, side, hour);
    }

    public int choice(int ship, int hour) {
        int refusal = refusalOf(ship, hour);
        return refusal != 0 ? refusal : books.sea.ownersSide(ship, hour);
    }

    public int held(int ship, int hour, int what) {
        Sea sea = books.sea;
        if (!sea.has(ship)) {
            return UNKNOWN;
        }
        if (!within(hour, 0, LAST_HOUR - HOURS_HELD + 1) || !within(what, 0, 2)) {
            return OUTSIDE;
        }
        int best = hour;
        int least = sea.leastMean(ship, hour);
        for (int waited = 1; waited < HOURS_HELD; waited++) {
            int cost = sea.leastMean(ship, hour + waited) + 10 * sea.terms[WAIT] * waited;
            if (cost < least) {
                least = cost;
                best = hour + waited;
            }
        }
        if (what == 0) {
            return best;
        }
        return what == 1 ? least : sea.ownersSide(ship, best);
    }

    // ---- 3 fleets, captains, insurers

    public int bound(int hour, int worst, int ship) {
        if (ship != -1 && !books.sea.moored(ship)) {
            return UNKNOWN;
        }
        if (!isHour(hour) || !within(worst, 0, 99999)) {
            return OUTSIDE;
        }
        fleet.gather(books.sea, hour);
        int chosen = fleet.leastWithin(worst);
        if (chosen == NONE) {
            return NONE;
        }
        return ship == -1 ? fleet.meanOfChoice(chosen) : fleet.sideInChoice(chosen, ship);
    }

    public int line(int hour, int i, int what) {
        if (!isHour(hour) || i < -1 || !within(what, 0, 1)) {
            return OUTSIDE;
        }
        fleet.gather(books.sea, hour);
        int length = fleet.drawLine();
        if (i == -1) {
            return length;
        }
        return i < length ? fleet.onLine(i, what) : NONE;
    }

    public int convoy(int hour, int what) {
        if (!isHour(hour) || !within(what, 0, 1)) {
            return OUTSIDE;
        }
        fleet.gather(books.sea, hour);
        int side = fleet.commonSide();
        return what == 0 ? side : fleet.meanOfAllBy(side);
    }

    public int captain(int ship, int hour) {
        int refusal = refusalOf(ship, hour);
        return refusal != 0 ? refusal : books.sea.captainsSide(ship, hour, books.sea.terms[HEAD]);
    }

    public int persuaded(int ship, int hour) {
        int refusal = refusalOf(ship, hour);
        if (refusal != 0) {
            return refusal;
        }
        int owners = books.sea.ownersSide(ship, hour);
        for (int head = TERM_LEAST[HEAD]; head <= TERM_MOST[HEAD]; head++) {
            if (books.sea.captainsSide(ship, hour, head) == owners) {
                return head;
            }
        }
        return NONE;
    }

    public int offer(int offer, int premium, int pays) {
        if (!within(offer, 0, OFFERS - 1) || !within(premium, 0, 999) || !within(pays, 0, 9999)) {
            return OUTSIDE;
        }
        Insurers insurers = books.insurers;
        insurers.there |= 1 << offer;
        insurers.premium[offer] = premium;
        insurers.pays[offer] = pays;
        return Integer.bitCount(insurers.there);
    }

    public int noOffers() {
        int before = Integer.bitCount(books.insurers.there);
        books.insurers.there = 0;
        return before;
    }

    public int insured(int ship, int hour, int what) {
        if (!books.sea.has(ship)) {
            return UNKNOWN;
        }
        if (!isHour(hour) || !within(what, 0, 2)) {
            return OUTSIDE;
        }
        Insurers insurers = books.insurers;
        int tenths = books.sea.digitAt(hour);
        int taken = insurers.worthTaking(tenths);
        if (what == 1) {
            return taken;
        }
        int premiums = insurers.premiumsOf(taken);
        int got = insurers.paysOf(taken);
        int whole = books.sea.whole(ship);
        if (what == 0) {
            return tenths * (whole - got) + 10 * premiums + 1000000;
        }
        int ifLost = tenths > 0 ? whole + premiums - got : 0;
        return Math.max(premiums, ifLost);
    }

    // ---- 4 lots, rolls

    public int aboard(int name, int drawn) {
        if (!within(name, 0, NAMES - 1)) {
            return UNKNOWN;
        }
        if (!within(drawn, 0, 9)) {
            return OUTSIDE;
        }
        books.crew.there |= 1 << name;
        books.crew.drawn[name] = drawn;
        return Integer.bitCount(books.crew.there);
    }

    public int ashore(int name) {
        if (!books.crew.has(name)) {
            return UNKNOWN;
        }
        books.crew.there &= ~(1 << name);
        return Integer.bitCount(books.crew.there);
    }

    public long lot(int n, int name, int part) {
        Crew crew = books.crew;
        if (!crew.has(name)) {
            return GONE + UNKNOWN;
        }
        if (!within(n, 1, Integer.bitCount(crew.there)) || !within(part, 0, 1)) {
            return GONE + OUTSIDE;
        }
        int alike = crew.countDrawn(crew.drawn[name], crew.drawn[name]);
        int before = crew.countDrawn(0, crew.drawn[name] - 1);
        int lotsLeft = Math.max(0, Math.min(alike, n - before));
        return partOf(lotsLeft, alike, part);
    }

    public long often(int m, int n, int r, int k, int part) {
        if (!within(m, 1, 8) || !within(n, 0, m) || !within(r, 1, 8) || !within(k, 0, 8) || !within(part, 0, 1)) {
            return GONE + OUTSIDE;
        }
        long drawnEnough = 0;
        for (int times = k; times <= r; times++) {
            drawnEnough += ways(r, times) * power(n, times) * power(m - n, r - times);
        }
        return partOf(drawnEnough, power(m, r), part);
    }

    public int roll(int names, int many) {
        if (!within(names, 0, 255) || !within(many, Integer.bitCount(names), NAMES)) {
            return OUTSIDE;
        }
        Rolls rolls = books.rolls;
        if (rolls.count >= ROLLS) {
            return FULL;
        }
        rolls.read[rolls.count] = names;
        rolls.room[rolls.count] = many - Integer.bitCount(names);
        rolls.count++;
        return rolls.count;
    }

    public int forget() {
        int before = books.rolls.count;
        books.rolls.count = 0;
        return before;
    }

    public int twice(int how) {
        return within(how, 0, 1) ? books.rolls.namesOnTwo(how == 1) : OUTSIDE;
    }

    public long burnt() {
        Rolls rolls = books.rolls;
        long all = 1;
        for (int i = 0; i < rolls.count && i < ROLLS; i++) {
            all *= ways(NAMES - Integer.bitCount(rolls.read[i]), rolls.room[i]);
        }
        return all;
    }

    public int years(int ship, int seed, int n, int what) {
        Sea sea = books.sea;
        if (!sea.has(ship)) {
            return UNKNOWN;
        }
        if (!within(seed, 0, 9999) || !within(n, 1, 99) || !within(what, 0, 2)) {
            return OUTSIDE;
        }
        if (what == 1) {
            return n * sea.lostToTeeth(ship);
        }
        int y = seed;
        int taken = 0;
        for (int year = 0; year < n; year++) {
            y = drawAfter(y);
            if (y / 24 % 10 < sea.digitAt(y % 24)) {
                taken++;
            }
        }
        return what == 2 ? taken : taken * sea.whole(ship);
    }

    public int image(int n) {
        if (!within(n, 0, IMAGES - 1)) {
            return OUTSIDE;
        }
        imageBooks(n).become(books);
        imagesKept |= 1 << n;
        return 1;
    }

    public int restore(int n) {
        if (!within(n, 0, IMAGES - 1)) {
            return OUTSIDE;
        }
        if ((imagesKept >> n & 1) == 0) {
            return STATE;
        }
        books.become(imageBooks(n));
        return 1;
    }

    public int told(int what) {
        if (within(what, 2, 1 + TERMS)) {
            return books.sea.terms[what - 2];
        }
        if (within(what, 20, 19 + NAMES)) {
            return books.crew.has(what - 20) ? books.crew.drawn[what - 20] : OUTSIDE;
        }
        if (within(what, 30, 29 + SHIPS)) {
            return books.sea.has(what - 30) ? books.sea.cargo[what - 30] : OUTSIDE;
        }
        if (within(what, 100, 123)) {
            return books.sea.digitAt(what - 100);
        }
        switch (what) {
            case 0: return pad.count;
            case 1: return books.sea.there;
            case 10: return books.sea.digits;
            case 11: return books.insurers.there;
            case 12: return books.crew.there;
            case 13: return books.rolls.count;
            default: return OUTSIDE;
        }
    }

    private Books imageBooks(int n) {
        return n == 0 ? firstImage : secondImage;
    }

    /** For the calls that take a ship and an hour alone; 0 if it is not refused. */
    private int refusalOf(int ship, int hour) {
        if (!books.sea.has(ship)) {
            return UNKNOWN;
        }
        return isHour(hour) ? 0 : OUTSIDE;
    }

    // ---- numbers

    private static boolean within(int v, int least, int most) {
        return v >= least && v <= most;
    }

    private static boolean isHour(int hour) {
        return within(hour, 0, LAST_HOUR);
    }

    private static int drawAfter(int x) {
        return (75 * x + 74) % 65537;
    }

    /** How many sets of k there are among n. */
    private static long ways(int n, int k) {
        if (k < 0 || k > n) {
            return 0;
        }
        long sets = 1;
        for (int i = 1; i <= k; i++) {
            sets = sets * (n - k + i) / i;
        }
        return sets;
    }

    private static long power(int base, int exponent) {
        long product = 1;
        for (int i = 0; i < exponent; i++) {
            product *= base;
        }
        return product;
    }

    /** The upper (0) or the lower (1) number of a fraction in lowest terms. */
    private static long partOf(long upper, long lower, int part) {
        long divisor = commonDivisor(upper, lower);
        if (divisor < 1) {
            return 0;
        }
        return (part == 0 ? upper : lower) / divisor;
    }

    private static long commonDivisor(long a, long b) {
        long greater = a;
        long less = b;
        // halves every second step at least, so that 128 steps are enough for any two longs
        for (int step = 0; step < 128 && less != 0; step++) {
            long rest = greater % less;
            greater = less;
            less = rest;
        }
        return greater;
    }

    /** The signs said, and how they read as a tide or as a season. */
    private static final class Pad {
        final int[] signs = new int[MOST_SIGNS];
        int count = 0;

        int clear() {
            int before = count;
            count = 0;
            return before;
        }

        int faultAsTide() {
            for (int i = 0; i < count && i < MOST_SIGNS; i++) {
                if (i >= MOST_DIGITS || !within(signs[i], '0', '9')) {
                    return i;
                }
            }
            return count == 0 ? 0 : NONE;
        }

        int faultAsSeason() {
            boolean sideIsDue = false;
            for (int i = 0; i < count && i < MOST_SIGNS; i++) {
                boolean fits = sideIsDue ? sideAt(i) != NONE : hourPassesAt(i) || shipAt(i) != NONE;
                if (!fits) {
                    return i;
                }
                sideIsDue = !sideIsDue && !hourPassesAt(i);
            }
            return sideIsDue ? count : NONE;
        }

        boolean hourPassesAt(int i) {
            return holds(i) && signs[i] == '.';
        }

        int shipAt(int i) {
            return holds(i) && within(signs[i], 'A', 'F') ? signs[i] - 'A' : NONE;
        }

        int sideAt(int i) {
            if (!holds(i)) {
                return NONE;
            }
            switch (signs[i]) {
                case 'T': return BY_TEETH;
                case 'W': return BY_WHIRL;
                case 'C': return BY_CAPE;
                default: return NONE;
            }
        }

        private boolean holds(int i) {
            return i >= 0 && i < count && i < MOST_SIGNS;
        }
    }

    /** Tries a season out on a sea of its own, so that the true one changes only when it is done. */
    private static final class Season {
        final Sea sea = new Sea();
        int parts = 0; // that were carried out
        int why = NONE; // the next one can not be

        /** The pad's season has no fault. */
        void tryOut(Pad pad, Sea start) {
            sea.become(start);
            parts = 0;
            why = NONE;
            int hour = 0;
            for (int i = 0; i < pad.count; i++) {
                if (pad.hourPassesAt(i)) {
                    hour++;
                } else {
                    int ship = pad.shipAt(i);
                    why = sea.whyNot(ship);
                    if (why != NONE) {
                        return;
                    }
                    i++;
                    sea.send(ship, pad.sideAt(i), hour);
                }
                parts++;
            }
        }
    }

    /** The ships, the terms, the tide, and what all seasons took: all that a season changes or looks at. */
    private static final class Sea {
        int there = 0; // bits
        final int[] where = new int[SHIPS];
        final int[] men = new int[SHIPS];
        final int[] straw = new int[SHIPS];
        final int[] cargo = new int[SHIPS];
        final int[] terms = TERM_AT_FIRST.clone();
        final int[] tenths = new int[MOST_DIGITS];
        int digits = 1;
        final int[] sums = new int[3];

        void become(Sea other) {
            there = other.there;
            System.arraycopy(other.where, 0, where, 0, SHIPS);
            System.arraycopy(other.men, 0, men, 0, SHIPS);
            System.arraycopy(other.straw, 0, straw, 0, SHIPS);
            System.arraycopy(other.cargo, 0, cargo, 0, SHIPS);
            System.arraycopy(other.terms, 0, terms, 0, TERMS);
            System.arraycopy(other.tenths, 0, tenths, 0, MOST_DIGITS);
            digits = other.digits;
            System.arraycopy(other.sums, 0, sums, 0, 3);
        }

        boolean has(int ship) {
            return within(ship, 0, SHIPS - 1) && (there >> ship & 1) == 1;
        }

        boolean moored(int ship) {
            return has(ship) && where[ship] == IN_HARBOUR;
        }

        int whyNot(int ship) {
            if (!has(ship)) {
                return NO_SUCH_SHIP;
            }
            return moored(ship) ? NONE : NOT_IN_HARBOUR;
        }

        int look(int ship, int what) {
            if (what == 0) {
                return where[ship];
            }
            return what == 1 ? men[ship] : straw[ship];
        }

        int digitAt(int hour) {
            if (hour < 0 || !within(digits, 1, MOST_DIGITS)) {
                return 0;
            }
            return tenths[hour % digits];
        }

        void send(int ship, int side, int hour) {
            if (!moored(ship)) {
                return;
            }
            where[ship] = THROUGH;
            if (side == BY_TEETH) {
                sendByTeeth(ship);
            } else if (side == BY_WHIRL) {
                sendByWhirl(ship, hour);
            } else {
                sums[PAID] += fare(ship);
            }
        }

        private void sendByTeeth(int ship) {
            int taken = menToTeeth(ship);
            straw[ship] = Math.max(0, straw[ship] - terms[TEETH]);
            men[ship] -= taken;
            sums[MEN_LOST] += taken;
            if (men[ship] == 0) {
                lose(ship);
            }
        }

        private void sendByWhirl(int ship, int hour) {
            terms[DRAW] = drawAfter(terms[DRAW]);
            if (terms[DRAW] % 10 < digitAt(hour)) {
                lose(ship);
            }
        }

        private void lose(int ship) {
            sums[MEN_LOST] += men[ship];
            sums[CARGO_LOST] += cargo[ship];
            where[ship] = LOST;
            men[ship] = 0;
            straw[ship] = 0;
            cargo[ship] = 0;
        }

        private int menToTeeth(int ship) {
            return Math.min(men[ship], Math.max(0, terms[TEETH] - straw[ship]));
        }

        int lostToTeeth(int ship) {
            int taken = menToTeeth(ship);
            return terms[LIFE] * taken + (taken == men[ship] ? cargo[ship] : 0);
        }

        int whole(int ship) {
            return terms[LIFE] * men[ship] + cargo[ship];
        }

        int fare(int ship) {
            return terms[PAY] * terms[DAYS] * men[ship];
        }

        int meanBy(int ship, int side, int hour) {
            if (side == BY_WHIRL) {
                return digitAt(hour) * whole(ship);
            }
            return 10 * (side == BY_TEETH ? lostToTeeth(ship) : fare(ship));
        }

        int worstBy(int ship, int side, int hour) {
            if (side == BY_WHIRL) {
                return digitAt(hour) > 0 ? whole(ship) : 0;
            }
            return side == BY_TEETH ? lostToTeeth(ship) : fare(ship);
        }

        int ownersSide(int ship, int hour) {
            int best = 0;
            for (int side = 1; side < SIDES; side++) {
                if (meanBy(ship, side, hour) < meanBy(ship, best, hour)) {
                    best = side;
                }
            }
            return best;
        }

        int leastMean(int ship, int hour) {
            return meanBy(ship, ownersSide(ship, hour), hour);
        }

        int captainsSide(int ship, int hour, int head) {
            int best = 0;
            for (int side = 1; side < SIDES; side++) {
                if (captainGets(ship, side, hour, head) > captainGets(ship, best, hour, head)) {
                    best = side;
                }
            }
            return best;
        }

        /** In the mean, in tenths. */
        private int captainGets(int ship, int side, int hour, int head) {
            if (side == BY_TEETH) {
                return 10 * rewardFor(men[ship] - menToTeeth(ship), head);
            }
            int reward = rewardFor(men[ship], head);
            return side == BY_WHIRL ? (10 - digitAt(hour)) * reward : 10 * (reward - terms[DAYS]);
        }

        /** A ship without men is lost. */
        private int rewardFor(int menThrough, int head) {
            return menThrough == 0 ? 0 : terms[HULL] + head * menThrough;
        }
    }

    /** All choices of a side for each ship in the harbour, at one hour. */
    private static final class Fleet {
        // MEAN stands above WORST in one long: one addition adds both, and order is by MEAN first
        private static final int MEAN_SHIFT = 32;
        private static final long BEYOND_ALL = 1L << 62;

        final int[] moored = new int[SHIPS];
        int count = 0;
        final long[] costs = new long[SHIPS * SIDES]; // of the i-th moored ship from 3 i on, by sides
        final long[] choices = new long[ALL_CHOICES];
        final long[] front = new long[ALL_CHOICES];
        final long[] next = new long[ALL_CHOICES];

        void gather(Sea sea, int hour) {
            count = 0;
            for (int ship = 0; ship < SHIPS; ship++) {
                if (sea.moored(ship)) {
                    moored[count] = ship;
                    for (int side = 0; side < SIDES; side++) {
                        long mean = sea.meanBy(ship, side, hour);
                        costs[count * SIDES + side] = (mean << MEAN_SHIFT) + sea.worstBy(ship, side, hour);
                    }
                    count++;
                }
            }
        }

        private static int meanIn(long cost) {
            return (int) (cost >> MEAN_SHIFT);
        }

        private static int worstIn(long cost) {
            return (int) cost;
        }

        /** Fills the row of choices, the first by ships and sides first; answers how many there are. */
        private int spreadChoices() {
            choices[0] = 0;
            int many = 1;
            for (int i = 0; i < count && many * SIDES <= ALL_CHOICES; i++) {
                // from the end on, so that none is written over before it has been spread
                for (int j = many - 1; j >= 0; j--) {
                    long before = choices[j];
                    for (int side = 0; side < SIDES; side++) {
                        choices[j * SIDES + side] = before + costs[i * SIDES + side];
                    }
                }
                many *= SIDES;
            }
            return many;
        }

        /** The first choice of the least MEAN whose WORST is no more than told; NONE. */
        int leastWithin(int worst) {
            int many = spreadChoices();
            int best = NONE;
            for (int j = 0; j < many; j++) {
                if (worstIn(choices[j]) <= worst && (best == NONE || meanIn(choices[j]) < meanIn(choices[best]))) {
                    best = j;
                }
            }
            return best;
        }

        int meanOfChoice(int choice) {
            return within(choice, 0, ALL_CHOICES - 1) ? meanIn(choices[choice]) : NONE;
        }

        int sideInChoice(int choice, int ship) {
            int rest = choice;
            for (int i = count - 1; i >= 0; i--) {
                if (moored[i] == ship) {
                    return rest % SIDES;
                }
                rest /= SIDES;
            }
            return NONE;
        }

        /** Fills the front with the pairs of the line, the least MEAN first; answers how many there are. */
        int drawLine() {
            front[0] = 0;
            int length = 1;
            for (int i = 0; i < count; i++) {
                length = widenFront(length, i * SIDES);
            }
            return length;
        }

        /**
         * Puts the ship whose costs begin at first to each pair of the front. A pair that falls behind
         * another falls behind it with whatever ships are put to both, so it can go at once.
         */
        private int widenFront(int length, int first) {
            int t = 0;
            int w = 0;
            int c = 0;
            int kept = 0;
            for (int step = 0; step < SIDES * length; step++) {
                long byTeeth = t < length ? front[t] + costs[first] : BEYOND_ALL;
                long byWhirl = w < length ? front[w] + costs[first + 1] : BEYOND_ALL;
                long byCape = c < length ? front[c] + costs[first + 2] : BEYOND_ALL;
                long least = Math.min(byTeeth, Math.min(byWhirl, byCape));
                if (least == byTeeth) {
                    t++;
                } else if (least == byWhirl) {
                    w++;
                } else {
                    c++;
                }
                if (kept < ALL_CHOICES && (kept == 0 || worstIn(least) < worstIn(next[kept - 1]))) {
                    next[kept] = least;
                    kept++;
                }
            }
            System.arraycopy(next, 0, front, 0, kept);
            return kept;
        }

        int onLine(int i, int what) {
            if (!within(i, 0, ALL_CHOICES - 1)) {
                return NONE;
            }
            return what == 0 ? meanIn(front[i]) : worstIn(front[i]);
        }

        int commonSide() {
            int best = 0;
            for (int side = 1; side < SIDES; side++) {
                if (meanOfAllBy(side) < meanOfAllBy(best)) {
                    best = side;
                }
            }
            return best;
        }

        int meanOfAllBy(int side) {
            int mean = 0;
            for (int i = 0; i < count; i++) {
                mean += meanIn(costs[i * SIDES + side]);
            }
            return mean;
        }
    }

    private static final class Insurers {
        int there = 0; // bits
        final int[] premium = new int[OFFERS];
        final int[] pays = new int[OFFERS];

        void become(Insurers other) {
            there = other.there;
            System.arraycopy(other.premium, 0, premium, 0, OFFERS);
            System.arraycopy(other.pays, 0, pays, 0, OFFERS);
        }

        /** An offer changes the mean by itself alone, so the first best set is of those that lower it. */
        int worthTaking(int tenths) {
            int taken = 0;
            for (int i = 0; i < OFFERS; i++) {
                if ((there >> i & 1) == 1 && 10 * premium[i] < tenths * pays[i]) {
                    taken |= 1 << i;
                }
            }
            return taken;
        }

        int premiumsOf(int set) {
            return sumOver(set, premium);
        }

        int paysOf(int set) {
            return sumOver(set, pays);
        }

        private static int sumOver(int set, int[] row) {
            int all = 0;
            for (int i = 0; i < OFFERS && i < row.length; i++) {
                if ((set >> i & 1) == 1) {
                    all += row[i];
                }
            }
            return all;
        }
    }

    private static final class Crew {
        int there = 0; // bits
        final int[] drawn = new int[NAMES];

        void become(Crew other) {
            there = other.there;
            System.arraycopy(other.drawn, 0, drawn, 0, NAMES);
        }

        boolean has(int name) {
            return within(name, 0, NAMES - 1) && (there >> name & 1) == 1;
        }

        int countDrawn(int least, int most) {
            int many = 0;
            for (int name = 0; name < NAMES; name++) {
                if (has(name) && within(drawn[name], least, most)) {
                    many++;
                }
            }
            return many;
        }
    }

    private static final class Rolls {
        int count = 0;
        final int[] read = new int[ROLLS]; // bits of names
        final int[] room = new int[ROLLS]; // for names that can not be read

        void become(Rolls other) {
            count = other.count;
            System.arraycopy(other.read, 0, read, 0, ROLLS);
            System.arraycopy(other.room, 0, room, 0, ROLLS);
        }

        int namesOnTwo(boolean perhaps) {
            int names = 0;
            for (int name = 0; name < NAMES; name++) {
                if (rollsWith(name, perhaps) >= 2) {
                    names |= 1 << name;
                }
            }
            return names;
        }

        private int rollsWith(int name, boolean perhaps) {
            int many = 0;
            for (int i = 0; i < count && i < ROLLS; i++) {
                if ((read[i] >> name & 1) == 1 || perhaps && room[i] > 0) {
                    many++;
                }
            }
            return many;
        }
    }

    /** All that an image keeps. */
    private static final class Books {
        final Sea sea = new Sea();
        final Insurers insurers = new Insurers();
        final Crew crew = new Crew();
        final Rolls rolls = new Rolls();

        void become(Books other) {
            sea.become(other.sea);
            insurers.become(other.insurers);
            crew.become(other.crew);
            rolls.become(other.rolls);
        }
    }
}
