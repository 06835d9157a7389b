/** Each sentence of the document on ships, tides and seasons that names a boundary: promises 1 to 13. */
public final class ShipEdgesTest {
    private static final int UNKNOWN = -1, OUTSIDE = -2, STATE = -3, FULL = -4, NO = -5, NONE = -6;
    private static final int TEETH = 0, LIFE = 1, PAY = 2, DAYS = 3, SEED = 7;
    private static final String DIGITS_24 = "901234567890123456789012";
    private static final Due due = new Due("ShipEdgesTest");

    public static void main(String[] args) {
        newObjects();
        ships();
        terms();
        theTeeth();
        theWhirl();
        theCape();
        theTide();
        thePad();
        faultOfATide();
        faultOfASeason();
        ordersThatCanNotBe();
        judged();
        behind();
        done();
        sums();
        due.close();
    }

    private static StraitFleet withShips(int... ships) {
        StraitFleet x = new StraitFleet();
        for (int ship : ships) {
            x.ship(ship, 9, 0, 10 + ship);
        }
        return x;
    }

    private static void newObjects() {
        due.sentence("Promise 1", "No SHIPS");
        StraitFleet x = new StraitFleet();
        due.is("told(1)", x.told(1), 0);
        for (int ship = 0; ship < 6; ship++) {
            due.is("state(" + ship + ", 0)", x.state(ship, 0), UNKNOWN);
            due.is("scrap(" + ship + ")", x.scrap(ship), UNKNOWN);
        }
        due.sentence("Promise 1", "THE TIDE is 0");
        x = new StraitFleet();
        due.is("told(10)", x.told(10), 1);
        for (int hour = 0; hour < 24; hour++) {
            due.is("told(" + (100 + hour) + ")", x.told(100 + hour), 0);
        }
        due.sentence("Terms", "at first");
        x = new StraitFleet();
        due.is("signs", x.told(0), 0);
        due.is("offers", x.told(11), 0);
        due.is("names", x.told(12), 0);
        due.is("rolls", x.told(13), 0);
        due.is("sum(0)", x.sum(0), 0);
        due.is("sum(1)", x.sum(1), 0);
        due.is("sum(2)", x.sum(2), 0);
        due.is("restore(0)", x.restore(0), STATE);
        due.is("restore(1)", x.restore(1), STATE);
        due.sentence("Promise 1", "A new object has nothing of another one");
        StraitFleet used = Due.withTide("95");
        used.ship(0, 1, 0, 0);
        used.set(TEETH, 9);
        used.set(SEED, 9999);
        used.offer(0, 1, 1);
        used.aboard(0, 9);
        used.roll(1, 1);
        used.image(0);
        used.say('A');
        due.holds("two new ones are alike", Snapshot.of(new StraitFleet()).equals(Snapshot.of(x)));
        due.is("an image of the other one", new StraitFleet().restore(0), STATE);
        due.is("signs of the other one", new StraitFleet().told(0), 0);
        due.sentence("What it is", "An object is used for at most 512 calls after it has been made");
        StraitFleet old = new StraitFleet();
        for (int call = 1; call <= 510; call++) {
            due.is("call " + call, call % 61 == 0 ? old.wipe() : old.say(46), call % 61 == 0 ? 60 : call % 61);
        }
        due.is("call 511", old.told(0), 22);
        due.is("call 512", old.done(), 22);
    }

    private static void ships() {
        due.sentence("Terms", "SHIPS 0 to 5 (A to F), some of which there are (none at first)");
        for (int ship = 0; ship < 6; ship++) {
            StraitFleet x = withShips(0, 1, 2, 3, 4, 5);
            Due.text(x, (char) ('A' + ship) + "C").done();
            for (int other = 0; other < 6; other++) {
                due.is("where " + other + " is behind " + ship, x.state(other, 0), other == ship ? 1 : 0);
            }
        }
        due.sentence("Promise 2", "A SHIP is there (or anew): how many are");
        StraitFleet x = new StraitFleet();
        int[] order = {5, 0, 3, 1, 4, 2};
        int bits = 0;
        for (int i = 0; i < 6; i++) {
            bits |= 1 << order[i];
            due.is("one more", x.ship(order[i], 1, 0, 0), i + 1);
            due.is("told(1)", x.told(1), bits);
            due.is("anew", x.ship(order[i], 30, 9, 999), i + 1);
            due.is("told(1)", x.told(1), bits);
        }
        due.sentence("Terms", "MEN (1 to 30), STRAW (0 to 9 men of straw), CARGO (0 to 999), in the harbour at first");
        for (int ship = 0; ship < 6; ship++) {
            shipIs(ship, 1, 0, 0);
            shipIs(ship, 30, 9, 999);
            shipIs(ship, 30, 0, 999);
            shipIs(ship, 1, 9, 0);
        }
        due.sentence("Promise 3", "A SHIP is no more: how many are");
        x = withShips(0, 1, 2, 3, 4, 5);
        for (int i = 0; i < 6; i++) {
            due.is("scrap", x.scrap(order[i]), 5 - i);
            due.is("scrapped once more", x.scrap(order[i]), UNKNOWN);
            bits &= ~(1 << order[i]);
            due.is("told(1)", x.told(1), bits);
        }
        due.is("ship behind the last scrap", x.ship(4, 1, 0, 0), 1);
        due.sentence("Promise 3", "A SHIP is no more, wherever it was");
        x = withShips(0, 1, 2);
        x.ship(1, 1, 0, 5);
        Due.text(x, "ACBT").done();
        due.is("through", x.scrap(0), 2);
        due.is("lost", x.scrap(1), 1);
        due.is("in the harbour", x.scrap(2), 0);
        due.is("told(30)", x.told(30), OUTSIDE);
        due.is("anew", x.ship(0, 2, 1, 3), 1);
        due.is("where it is", x.state(0, 0), 0);
        due.is("sums stay: men", x.sum(0), 1);
        due.is("sums stay: cargo", x.sum(1), 5);
        due.is("sums stay: paid", x.sum(2), 180);
    }

    private static void shipIs(int ship, int men, int straw, int cargo) {
        StraitFleet x = new StraitFleet();
        String of = "of ship(" + ship + ", " + men + ", " + straw + ", " + cargo + ")";
        due.is("how many " + of, x.ship(ship, men, straw, cargo), 1);
        due.is("where " + of, x.state(ship, 0), 0);
        due.is("men " + of, x.state(ship, 1), men);
        due.is("straw " + of, x.state(ship, 2), straw);
        due.is("cargo " + of, x.told(30 + ship), cargo);
    }

    private static void terms() {
        String[] words = {
            "TEETH (1 to 9; 6 at first)", "LIFE (0 to 99; 10: what a man is worth)", "PAY (0 to 20; 1: a man's, a day)",
            "DAYS (0 to 60; 20: round the cape)", "WAIT (0 to 99; 1: of an hour)", "HULL (0 to 99; 50)",
            "HEAD (0 to 99; 0)", "SEED (0 to 9999; 1)",
        };
        int[] least = {1, 0, 0, 0, 0, 0, 0, 0};
        int[] most = {9, 99, 20, 60, 99, 99, 99, 9999};
        int[] first = {6, 10, 1, 20, 1, 50, 0, 1};
        for (int which = 0; which < 8; which++) {
            due.sentence("Terms", words[which]);
            StraitFleet x = new StraitFleet();
            due.is("at first", x.told(2 + which), first[which]);
            due.is("too small", x.set(which, least[which] - 1), OUTSIDE);
            due.is("too large", x.set(which, most[which] + 1), OUTSIDE);
            due.is("still as at first", x.told(2 + which), first[which]);
            due.is("the least: which it was", x.set(which, least[which]), first[which]);
            due.is("the least", x.told(2 + which), least[which]);
            due.is("the most: which it was", x.set(which, most[which]), least[which]);
            due.is("the most", x.told(2 + which), most[which]);
            due.is("the same again", x.set(which, most[which]), most[which]);
            for (int other = 0; other < 8; other++) {
                due.is("another one", x.told(2 + other), other == which ? most[which] : first[other]);
            }
        }
        due.sentence("Promise 4", "7 SEED (x is it then): which it was (of 7: x)");
        StraitFleet x = Due.withTide("9");
        x.set(SEED, 3160);
        int[] drawn = {40463, 20097, 65535};
        for (int draw : drawn) {
            x.ship(0, 1, 0, 0);
            Due.text(x, "AW").done();
            due.is("x", x.told(9), draw);
        }
        due.is("x, the largest that draws come to", x.set(SEED, 0), 65535);
        due.is("x, the least", x.set(SEED, 0), 0);
    }

    /** One by one: straw first, then men. */
    private static void theTeeth() {
        due.sentence("Terms", "the teeth (T) take TEETH of a ship, straw first; men only as many as there are");
        for (int teeth = 1; teeth <= 9; teeth++) {
            for (int straw = 0; straw <= 9; straw++) {
                int enough = Math.max(1, teeth - straw);
                int[] crews = {1, 2, 8, 9, 10, 30, enough, enough + 1};
                for (int men : crews) {
                    teethTake(teeth, men, straw);
                }
            }
        }
        due.sentence("Terms", "if no man is left, CARGO is lost, too (0 then)");
        StraitFleet x = withShips();
        x.ship(0, 6, 0, 999);
        x.ship(1, 7, 0, 998);
        x.ship(2, 3, 3, 997);
        x.ship(3, 4, 3, 996);
        x.ship(4, 5, 0, 0);
        Due.text(x, "ATBTCTDTET").done();
        due.is("6 of 6 men: cargo", x.told(30), 0);
        due.is("6 of 7 men: cargo", x.told(31), 998);
        due.is("3 of 3 men: cargo", x.told(32), 0);
        due.is("3 of 4 men: cargo", x.told(33), 996);
        due.is("no cargo", x.told(34), 0);
        due.is("cargo lost", x.sum(1), 999 + 997);
        due.is("men lost", x.sum(0), 6 + 6 + 3 + 3 + 5);
    }

    private static void teethTake(int teeth, int men, int straw) {
        int menLeft = men;
        int strawLeft = straw;
        for (int bite = 0; bite < teeth; bite++) {
            if (strawLeft > 0) {
                strawLeft--;
            } else if (menLeft > 0) {
                menLeft--;
            }
        }
        String of = " of " + men + " men, " + straw + " of straw by " + teeth + " teeth";
        StraitFleet x = Due.withTide("9");
        x.set(TEETH, teeth);
        x.ship(5, men, straw, 321);
        Due.text(x, "FT");
        due.is("behind: where" + of, x.behind(5, 0), menLeft == 0 ? 2 : 1);
        due.is("done" + of, x.done(), 1);
        due.is("where" + of, x.state(5, 0), menLeft == 0 ? 2 : 1);
        due.is("men" + of, x.state(5, 1), menLeft);
        due.is("straw" + of, x.state(5, 2), strawLeft);
        due.is("cargo" + of, x.told(35), menLeft == 0 ? 0 : 321);
        due.is("men lost" + of, x.sum(0), men - menLeft);
        due.is("cargo lost" + of, x.sum(1), menLeft == 0 ? 321 : 0);
        due.is("x" + of, x.told(9), 1);
    }

    private static void theWhirl() {
        due.sentence("Terms", "the whirl (W) takes all (MEN, STRAW, CARGO: 0 then) by the TIDE's tenths");
        StraitFleet x = Due.withTide("9");
        x.set(SEED, 0);
        x.ship(0, 30, 9, 999);
        Due.text(x, "AW").done();
        due.is("where", x.state(0, 0), 2);
        due.is("men", x.state(0, 1), 0);
        due.is("straw", x.state(0, 2), 0);
        due.is("cargo", x.told(30), 0);
        due.is("men lost, straw not", x.sum(0), 30);
        due.is("cargo lost", x.sum(1), 999);
        due.sentence("Terms", "it is lost, if x left over by 10 is below the TIDE's digit");
        for (int digit = 0; digit < 10; digit++) {
            // left over by 10 these draws are 4, 9, 2, 7, 0, 5, 8, 3, 1, 6
            int[] seeds = {0, 1, 873, 874, 1748, 1749, 2623, 2622, 3497, 3496};
            for (int seed : seeds) {
                whirlDraws(digit, seed);
            }
        }
        due.sentence("Terms", "(75 x and 74) left over by 65537");
        int[][] draws = {{0, 74}, {1, 149}, {872, 65474}, {873, 12}, {874, 87}, {1747, 25}, {9998, 29017}, {9999, 29092}};
        for (int[] draw : draws) {
            x = Due.withTide("0");
            x.set(SEED, draw[0]);
            x.ship(0, 1, 0, 0);
            Due.text(x, "AW");
            due.is("the digit 0: where", x.behind(0, 0), 1);
            x.done();
            due.is("x behind " + draw[0], x.told(9), draw[1]);
        }
        due.sentence("Terms", "By W a DRAW: one for each ship by W, in their order; none by T or C");
        x = Due.withTide("5");
        x.set(SEED, 873);
        for (int ship = 0; ship < 6; ship++) {
            x.ship(ship, 20, 0, 0);
        }
        Due.text(x, "FWATEWBCDWCW").done();
        // 12, 974, 7587, 44803: left over by 10 they are 2, 4, 7, 3
        due.is("F by 2", x.state(5, 0), 2);
        due.is("E by 4", x.state(4, 0), 2);
        due.is("D by 7", x.state(3, 0), 1);
        due.is("C by 3", x.state(2, 0), 2);
        due.is("A by T", x.state(0, 0), 1);
        due.is("B by C", x.state(1, 0), 1);
        due.is("x", x.told(9), 44803);
    }

    private static void whirlDraws(int digit, int seed) {
        int x = (75 * seed + 74) % 65537;
        boolean lost = x % 10 < digit;
        StraitFleet fleet = Due.withTide("" + digit);
        fleet.set(SEED, seed);
        fleet.ship(2, 4, 3, 50);
        Due.text(fleet, "CW");
        String of = " by " + x + " and the digit " + digit;
        due.is("where" + of, fleet.behind(2, 0), lost ? 2 : 1);
        fleet.done();
        due.is("where" + of, fleet.state(2, 0), lost ? 2 : 1);
        due.is("men" + of, fleet.state(2, 1), lost ? 0 : 4);
        due.is("straw" + of, fleet.state(2, 2), lost ? 0 : 3);
        due.is("cargo" + of, fleet.told(32), lost ? 0 : 50);
        due.is("x" + of, fleet.told(9), x);
    }

    private static void theCape() {
        due.sentence("Terms", "the cape (C) takes nothing; PAY times DAYS for each man is paid");
        int[][] paid = {{0, 60, 0}, {20, 0, 0}, {1, 1, 30}, {20, 60, 36000}, {0, 0, 0}, {19, 59, 33630}};
        for (int[] row : paid) {
            StraitFleet x = Due.withTide("9");
            x.set(PAY, row[0]);
            x.set(DAYS, row[1]);
            x.ship(0, 30, 9, 999);
            Due.text(x, "AC").done();
            due.is("paid by " + row[0] + " for " + row[1] + " days", x.sum(2), row[2]);
            due.is("where", x.state(0, 0), 1);
            due.is("men", x.state(0, 1), 30);
            due.is("straw", x.state(0, 2), 9);
            due.is("cargo", x.told(30), 999);
            due.is("men lost", x.sum(0), 0);
            due.is("cargo lost", x.sum(1), 0);
        }
    }

    private static void theTide() {
        due.sentence("Terms", "THE TIDE is a row of 1 to 24 digits (0 at first: one digit)");
        for (int digits = 1; digits <= 24; digits++) {
            StraitFleet x = Due.text(new StraitFleet(), DIGITS_24.substring(0, digits));
            due.is(digits + " digits have no fault", x.fault(0), NONE);
            due.is("tide() of " + digits, x.tide(), digits);
            due.is("told(10)", x.told(10), digits);
            for (int hour = 0; hour < 24; hour++) {
                due.is("hour " + hour + " of " + digits, x.told(100 + hour), DIGITS_24.charAt(hour % digits) - '0');
            }
        }
        due.sentence("Terms", "hour h (0 to 999) has the digit at h left over by how many there are: so many tenths");
        for (int digits = 1; digits <= 24; digits++) {
            StraitFleet x = Due.withTide(DIGITS_24.substring(0, digits));
            x.set(LIFE, 1);
            x.ship(0, 1, 0, 0);
            int[] hours = {0, digits - 1, digits, digits + 1, 2 * digits - 1, 2 * digits, 23, 24, 25, 255, 256, 998, 999};
            for (int hour : hours) {
                due.is("hour " + hour + " of " + digits, x.mean(0, 1, hour), DIGITS_24.charAt(hour % digits) - '0');
            }
        }
        due.sentence("Promise 8", "The PAD becomes THE TIDE (it is empty then): digits");
        StraitFleet x = Due.withTide(DIGITS_24);
        due.is("the pad is empty", x.told(0), 0);
        due.is("an empty one is no tide", x.tide(), NO);
        due.is("the tide stays", x.told(10), 24);
        x.say('7');
        due.is("a shorter one", x.tide(), 1);
        for (int hour = 0; hour < 24; hour++) {
            due.is("nothing is left of the longer one", x.told(100 + hour), 7);
        }
        due.is("a longer one again", Due.text(x, "08").tide(), 2);
        due.is("hour 22", x.told(122), 0);
        due.is("hour 23", x.told(123), 8);
        due.sentence("Promise 8", "NO: there is a FAULT (0)");
        for (int sign = 33; sign <= 126; sign++) {
            x = Due.withTide("31");
            x.say(sign);
            boolean digit = sign >= 48 && sign <= 57;
            due.is("tide() of the sign " + sign, x.tide(), digit ? 1 : NO);
            due.is("signs behind " + sign, x.told(0), digit ? 0 : 1);
            due.is("the first digit behind " + sign, x.told(100), digit ? sign - 48 : 3);
            due.is("the second digit behind " + sign, x.told(101), digit ? sign - 48 : 1);
        }
    }

    private static void thePad() {
        due.sentence("Terms", "The PAD has up to 60 signs (codes 33 to 126)");
        StraitFleet x = new StraitFleet();
        for (int sign = 33; sign <= 126; sign++) {
            if (sign == 33 + 60) {
                due.is("signs", x.wipe(), 60);
            }
            due.is("say(" + sign + ")", x.say(sign), (sign - 33) % 60 + 1);
        }
        due.is("too small", x.say(32), OUTSIDE);
        due.is("too large", x.say(127), OUTSIDE);
        due.is("signs", x.told(0), 34);
        due.sentence("Promise 5", "A sign more: how many. OUTSIDE; FULL");
        x = new StraitFleet();
        for (int i = 1; i <= 60; i++) {
            due.is("sign " + i, x.say('.'), i);
        }
        due.is("sign 61", x.say('.'), FULL);
        due.is("sign 61 again", x.say('A'), FULL);
        due.is("sign 61 that is none", x.say(32), OUTSIDE);
        due.is("sign 61 that is none", x.say(127), OUTSIDE);
        due.is("signs", x.told(0), 60);
        due.is("still 60 hours", x.judge(0), NONE);
        due.is("all 60 are parts", x.done(), 60);
        due.is("empty then", x.say('.'), 1);
        due.sentence("Promise 6", "Signs go: how many there were");
        x = new StraitFleet();
        due.is("of none", x.wipe(), 0);
        x.say('!');
        due.is("of one", x.wipe(), 1);
        due.is("of none again", x.wipe(), 0);
        due.is("of 60", Due.text(x, "9".repeat(60)).wipe(), 60);
        due.is("fault of none as a tide", x.fault(0), 0);
        due.is("fault of none as a season", x.fault(1), NONE);
        for (int i = 1; i <= 60; i++) {
            due.is("full once more", x.say('C'), i);
        }
        due.is("full", x.say('C'), FULL);
    }

    private static void tideFault(String text, int want) {
        StraitFleet x = Due.text(new StraitFleet(), text);
        due.is("fault(0) of " + text, x.fault(0), want);
        due.is("fault(0) of " + text + " again", x.fault(0), want);
        due.is("signs of " + text, x.told(0), text.length());
    }

    private static void faultOfATide() {
        due.sentence("Promise 7", "of a TIDE: the number of signs, if more must come");
        tideFault("", 0);
        due.sentence("Promise 7", "of a TIDE: the place (from 0 on) of the first sign that can not stand there");
        for (int place = 0; place < 24; place++) {
            tideFault(DIGITS_24.substring(0, place) + "/", place);
            tideFault(DIGITS_24.substring(0, place) + ":" + DIGITS_24 + "x", place);
        }
        tideFault("x.", 0);
        tideFault("5.x", 1);
        due.sentence("Promise 7", "of a TIDE: a row of 1 to 24 digits, the 25th can not stand there");
        tideFault(DIGITS_24, NONE);
        tideFault(DIGITS_24 + "0", 24);
        tideFault(DIGITS_24 + "A", 24);
        tideFault(DIGITS_24 + DIGITS_24, 24);
        tideFault("0".repeat(60), 24);
        tideFault("0".repeat(59) + "x", 24);
        tideFault("0".repeat(23) + "x" + "0".repeat(36), 23);
        due.sentence("Promise 7", "NONE");
        tideFault("0", NONE);
        tideFault("9", NONE);
        tideFault("09", NONE);
        tideFault("0".repeat(23), NONE);
    }

    private static void seasonFault(String text, int want) {
        StraitFleet x = withShips(0, 1, 2, 3, 4, 5);
        Due.text(x, text);
        due.is("fault(1) of " + text, x.fault(1), want);
        due.is("judge(0) of " + text + " is NO by a fault alone", x.judge(0) == NO ? 1 : 0, want == NONE ? 0 : 1);
        due.is("signs of " + text, x.told(0), text.length());
    }

    private static void faultOfASeason() {
        due.sentence("Promise 7", "of a SEASON: NONE");
        seasonFault("", NONE);
        seasonFault(".", NONE);
        seasonFault(".".repeat(60), NONE);
        seasonFault("AC".repeat(30), NONE);
        seasonFault("ATBWCC.DT.EW..FC...", NONE);
        due.sentence("Promise 7", "of a SEASON: the number of signs, if more must come");
        seasonFault("A", 1);
        seasonFault("F", 1);
        seasonFault(".A", 2);
        seasonFault("CCC", 3);
        seasonFault(".".repeat(59) + "A", 60);
        seasonFault("AC".repeat(29) + ".A", 60);
        due.sentence("Promise 7", "of a SEASON: the place (from 0 on) of the first sign that can not stand there");
        for (int sign = 33; sign <= 126; sign++) {
            char c = (char) sign;
            boolean ship = sign >= 'A' && sign <= 'F';
            boolean side = sign == 'T' || sign == 'W' || sign == 'C';
            seasonFault("" + c, sign == '.' ? NONE : ship ? 1 : 0);
            seasonFault("E" + c, side ? NONE : 1);
            seasonFault("ET" + c, sign == '.' ? NONE : ship ? 3 : 2);
            seasonFault("." + c + "T", sign == '.' ? 2 : ship ? NONE : 1);
        }
        seasonFault("ATX?", 2);
        seasonFault("A?X", 1);
        seasonFault(".".repeat(59) + "T", 59);
        seasonFault("AC".repeat(29) + "A.", 59);
        due.sentence("Promise 7", "a FAULT is of the text alone: whether there is such a SHIP is not looked at");
        StraitFleet x = Due.text(new StraitFleet(), "ATATFW");
        due.is("fault(1)", x.fault(1), NONE);
    }

    private static void ordersThatCanNotBe() {
        due.sentence("Terms", "can not be for the least of these reasons: 1 there is no such SHIP; 2 it is not in the harbour");
        for (int ship = 0; ship < 6; ship++) {
            String letter = "" + (char) ('A' + ship);
            StraitFleet x = withShips(0, 1, 2, 3, 4, 5);
            for (int side = 0; side < 3; side++) {
                String order = letter + "TWC".charAt(side);
                x.ship(ship, 20, 0, 0);
                due.is(order + " can be", Due.text(x, order).judge(1), NONE);
                x.done();
                due.is(order + " again", Due.text(x, order).judge(1), 2);
                x.scrap(ship);
                due.is(order + " of one that was through and is no more", Due.text(x, order).judge(1), 1);
                due.is(order + ": the part", x.judge(0), 0);
            }
            x.ship(ship, 1, 0, 0);
            Due.text(x, letter + "T").done();
            due.is("of one that is lost", Due.text(x, letter + "W").judge(1), 2);
            x.scrap(ship);
            due.is("of one that was lost and is no more", Due.text(x, letter + "W").judge(1), 1);
            x.ship(ship, 1, 0, 0);
            due.is("of one told anew", Due.text(x, letter + "W").judge(1), NONE);
        }
    }

    private static void judgedIs(StraitFleet x, String text, int part, int why) {
        Due.text(x, text);
        due.is("the part of " + text, x.judge(0), part);
        due.is("why of " + text, x.judge(1), why);
    }

    private static void judged() {
        due.sentence("Promise 9", "the first part (orders, hours; from 0 on) of a SEASON that can not be, why");
        StraitFleet x = withShips(0, 1, 3);
        Due.text(x, "DC").done();
        judgedIs(x, "CT", 0, 1);
        judgedIs(x, "DT", 0, 2);
        judgedIs(x, "CTDT", 0, 1);
        judgedIs(x, "DTCT", 0, 2);
        judgedIs(x, "ATCT", 1, 1);
        judgedIs(x, ".CT", 1, 1);
        judgedIs(x, "AT.BT.DT", 4, 2);
        judgedIs(x, "ATAW", 1, 2);
        judgedIs(x, "AC.AC", 2, 2);
        judgedIs(x, ".".repeat(58) + "FT", 58, 1);
        x = withShips(0, 1, 3);
        Due.text(x, "DC").done();
        judgedIs(x, "AT" + ".".repeat(56) + "AT", 57, 2);
        due.sentence("Promise 9", "NONE");
        x = withShips(0, 1);
        judgedIs(x, "", NONE, NONE);
        judgedIs(x, "...", NONE, NONE);
        judgedIs(x, "BTAW.", NONE, NONE);
        judgedIs(x, ".".repeat(60), NONE, NONE);
        judgedIs(new StraitFleet(), "", NONE, NONE);
        due.sentence("Promise 9", "each SEASON by itself: nothing is left of one that could not be");
        x = withShips(0);
        judgedIs(x, "..ATAT", 3, 2);
        judgedIs(x, "", NONE, NONE);
        due.is("behind none", x.behind(0, 0), 0);
        judgedIs(x, "BT", 0, 1);
        judgedIs(x, "AT", NONE, NONE);
        judgedIs(x, "BT", 0, 1);
        x.wipe();
        due.is("done of none", x.done(), 0);
        due.sentence("Promise 9", "it is only judged: nothing is done");
        x = Due.withTide("9");
        x.ship(0, 9, 1, 5);
        Due.text(x, "AW..");
        due.is("judge(0)", x.judge(0), NONE);
        due.is("judge(1)", x.judge(1), NONE);
        due.is("where", x.state(0, 0), 0);
        due.is("x", x.told(9), 1);
        due.is("signs", x.told(0), 4);
        due.is("men lost", x.sum(0), 0);
    }

    private static void behind() {
        due.sentence("Promise 10", "where it is (what = 0), MEN (1), STRAW (2)");
        StraitFleet x = new StraitFleet();
        x.ship(0, 30, 9, 1);
        x.ship(1, 1, 0, 2);
        Due.text(x, "AT");
        due.is("where, before it is done", x.state(0, 0), 0);
        x.done();
        due.is("where A is", x.state(0, 0), 1);
        due.is("men of A", x.state(0, 1), 30);
        due.is("straw of A", x.state(0, 2), 3);
        due.is("where B is", x.state(1, 0), 0);
        due.is("men of B", x.state(1, 1), 1);
        due.is("straw of B", x.state(1, 2), 0);
        due.sentence("Promise 11", "BEHIND an empty SEASON all is as it is now");
        for (int ship = 0; ship < 2; ship++) {
            for (int what = 0; what < 3; what++) {
                due.is("behind(" + ship + ", " + what + ")", x.behind(ship, what), x.state(ship, what));
            }
        }
        due.sentence("Promise 11", "where it is (0 in the harbour, 1 through, 2 lost: no man left, too), MEN, STRAW");
        x = Due.withTide("90");
        x.set(SEED, 0);
        x.ship(0, 6, 0, 5);
        x.ship(1, 7, 0, 5);
        x.ship(2, 9, 4, 5);
        x.ship(3, 9, 4, 5);
        x.ship(4, 9, 4, 5);
        x.ship(5, 9, 8, 5);
        Due.text(x, "ATBTCW.DWEC");
        int[][] want = {{2, 0, 0}, {1, 1, 0}, {2, 0, 0}, {1, 9, 4}, {1, 9, 4}, {0, 9, 8}};
        for (int ship = 0; ship < 6; ship++) {
            for (int what = 0; what < 3; what++) {
                due.is("behind(" + ship + ", " + what + ")", x.behind(ship, what), want[ship][what]);
            }
            due.is("state(" + ship + ", 0)", x.state(ship, 0), 0);
        }
        due.is("x", x.told(9), 0);
        due.is("signs", x.told(0), 11);
        due.is("men lost", x.sum(0), 0);
        due.is("done is the same", x.done(), 6);
        for (int ship = 0; ship < 6; ship++) {
            for (int what = 0; what < 3; what++) {
                due.is("state(" + ship + ", " + what + ")", x.state(ship, what), want[ship][what]);
            }
        }
        due.sentence("Terms", ". (an hour passes; it begins in hour 0)");
        // 75 times 0 and 74: lost by the digit 5 on
        for (int hours = 0; hours <= 58; hours++) {
            x = Due.withTide("4444555544445");
            x.set(SEED, 0);
            x.ship(0, 2, 0, 0);
            Due.text(x, ".".repeat(hours) + "AW");
            due.is("behind " + hours + " hours", x.behind(0, 0), "4444555544445".charAt(hours % 13) == '5' ? 2 : 1);
        }
    }

    private static void done() {
        due.sentence("Promise 12", "The SEASON is DONE (the PAD is empty then): parts");
        StraitFleet x = new StraitFleet();
        due.is("an empty one", x.done(), 0);
        due.is("60 hours", Due.text(x, ".".repeat(60)).done(), 60);
        due.is("signs", x.told(0), 0);
        due.is("nothing is left of it", x.done(), 0);
        x = withShips(0, 1, 2, 3, 4, 5);
        due.is("all six and 48 hours", Due.text(x, "ATBTCTDTETFT" + ".".repeat(48)).done(), 54);
        for (int ship = 0; ship < 6; ship++) {
            due.is("where " + ship + " is", x.state(ship, 0), 1);
        }
        due.sentence("Promise 12", "hours of a SEASON that is DONE do not count for the next one");
        x = Due.withTide("09");
        x.set(SEED, 0);
        x.ship(0, 5, 0, 0);
        due.is("an hour", Due.text(x, ".").done(), 1);
        due.is("hour 0 again", Due.text(x, "AW").behind(0, 0), 1);
        due.is("hour 1", Due.text(x, ".AW").behind(0, 0), 2);
        due.sentence("Terms", "DONE: all is so then (a SHIP told anew is in the harbour)");
        x = withShips(0);
        for (int round = 1; round <= 3; round++) {
            due.is("done", Due.text(x, "AT").done(), 1);
            due.is("where it is", x.state(0, 0), 1);
            due.is("men", x.state(0, 1), 3);
            due.is("it can not go twice", Due.text(x, "AT").done(), NO);
            due.is("told anew", x.ship(0, 9, 0, 0), 1);
            due.is("in the harbour", x.state(0, 0), 0);
            due.is("men", x.state(0, 1), 9);
        }
        due.sentence("Promise 12", "NO: of a SEASON with a part that can not be nothing is DONE, the parts before it neither");
        x = Due.withTide("9");
        x.set(SEED, 0);
        x.ship(0, 9, 1, 5);
        x.ship(1, 9, 1, 5);
        due.is("done", Due.text(x, "AW.BC..CT").done(), NO);
        due.is("where A is", x.state(0, 0), 0);
        due.is("men of A", x.state(0, 1), 9);
        due.is("cargo of A", x.told(30), 5);
        due.is("where B is", x.state(1, 0), 0);
        due.is("x", x.told(9), 0);
        due.is("men lost", x.sum(0), 0);
        due.is("paid", x.sum(2), 0);
        due.is("signs", x.told(0), 9);
        x.ship(2, 1, 0, 0);
        due.is("with C there it can be", x.done(), 6);
    }

    private static void sums() {
        due.sentence("Promise 13", "SUMS of all that was DONE: men lost, CARGO lost, paid at the cape");
        StraitFleet x = Due.withTide("9");
        x.set(PAY, 20);
        x.set(DAYS, 60);
        x.set(TEETH, 9);
        int men = 0;
        int cargo = 0;
        int paid = 0;
        for (int round = 0; round < 12; round++) {
            x.ship(0, 9, 0, 999);
            x.ship(1, 10, 0, 999);
            x.ship(2, 30, 9, 999);
            x.ship(3, 30, 9, 999);
            Due.text(x, "ATBTCTDC");
            due.is("behind it does not count", x.behind(0, 1), 0);
            due.is("men", x.sum(0), men);
            x.done();
            men += 18;
            cargo += 999;
            paid += 36000;
            due.is("men", x.sum(0), men);
            due.is("cargo", x.sum(1), cargo);
            due.is("paid", x.sum(2), paid);
        }
    }
}
