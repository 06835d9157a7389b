/** Promises 1 to 13: ships, tides, seasons. */
public final class ShipsTest {
    private static final int UNKNOWN = -1, OUTSIDE = -2, FULL = -4, NO = -5, NONE = -6;
    private static final Due due = new Due("ShipsTest");

    public static void main(String[] args) {
        newObject();
        shipAndScrap();
        setTerms();
        sayAndWipe();
        faultOfTide();
        faultOfSeason();
        tide();
        judge();
        byTeeth();
        byWhirl();
        byCape();
        hoursOfASeason();
        behindAndDone();
        sums();
        due.close();
    }

    private static void newObject() {
        StraitFleet x = new StraitFleet();
        int[] first = {0, 0, 6, 10, 1, 20, 1, 50, 0, 1, 1, 0, 0, 0};
        for (int i = 0; i < first.length; i++) {
            due.is("1: told(" + i + ")", x.told(i), first[i]);
        }
        for (int hour = 0; hour < 24; hour++) {
            due.is("1: digit", x.told(100 + hour), 0);
        }
        for (int ship = 0; ship < 6; ship++) {
            due.is("1: state", x.state(ship, 0), UNKNOWN);
        }
        for (int what = 0; what < 3; what++) {
            due.is("1: sum", x.sum(what), 0);
        }
        due.is("1: burnt", x.burnt(), 1);
        due.is("1: no image", x.restore(0), -3);
        due.is("1: no image", x.restore(1), -3);
    }

    private static void shipAndScrap() {
        StraitFleet x = new StraitFleet();
        due.is("2: ship", x.ship(5, 30, 9, 999), 1);
        due.is("2: ship", x.ship(0, 1, 0, 0), 2);
        due.is("2: bits", x.told(1), 33);
        due.is("2: anew", x.ship(5, 29, 8, 998), 2);
        due.is("2: men", x.state(5, 1), 29);
        due.is("2: straw", x.state(5, 2), 8);
        due.is("2: cargo", x.told(35), 998);
        due.is("2: number", x.ship(-1, 1, 0, 0), UNKNOWN);
        due.is("2: number", x.ship(6, 1, 0, 0), UNKNOWN);
        due.is("2: number first", x.ship(6, 0, 10, 1000), UNKNOWN);
        due.is("2: men", x.ship(0, 0, 0, 0), OUTSIDE);
        due.is("2: men", x.ship(0, 31, 0, 0), OUTSIDE);
        due.is("2: straw", x.ship(0, 1, -1, 0), OUTSIDE);
        due.is("2: straw", x.ship(0, 1, 10, 0), OUTSIDE);
        due.is("2: cargo", x.ship(0, 1, 0, -1), OUTSIDE);
        due.is("2: cargo", x.ship(0, 1, 0, 1000), OUTSIDE);
        due.is("2: refused changes nothing", x.state(0, 1), 1);
        Due.text(x, "AC").done();
        due.is("2: through", x.state(0, 0), 1);
        x.ship(0, 3, 0, 0);
        due.is("2: anew is in the harbour", x.state(0, 0), 0);

        due.is("3: scrap", x.scrap(5), 1);
        due.is("3: scrapped", x.scrap(5), UNKNOWN);
        due.is("3: bits", x.told(1), 1);
        due.is("3: number", x.scrap(-1), UNKNOWN);
        due.is("3: number", x.scrap(6), UNKNOWN);
        due.is("3: number", x.scrap(32), UNKNOWN);
        due.is("3: last", x.scrap(0), 0);
        due.is("3: state", x.state(0, 0), UNKNOWN);
    }

    private static void setTerms() {
        int[] least = {1, 0, 0, 0, 0, 0, 0, 0};
        int[] most = {9, 99, 20, 60, 99, 99, 99, 9999};
        int[] first = {6, 10, 1, 20, 1, 50, 0, 1};
        StraitFleet x = new StraitFleet();
        for (int which = 0; which < 8; which++) {
            due.is("4: below " + which, x.set(which, least[which] - 1), OUTSIDE);
            due.is("4: above " + which, x.set(which, most[which] + 1), OUTSIDE);
            due.is("4: before " + which, x.set(which, least[which]), first[which]);
            due.is("4: least " + which, x.set(which, most[which]), least[which]);
            due.is("4: told " + which, x.told(2 + which), most[which]);
        }
        due.is("4: which", x.set(-1, 1), OUTSIDE);
        due.is("4: which", x.set(8, 1), OUTSIDE);
        x.ship(0, 1, 0, 0);
        x.set(7, 3);
        Due.text(x, "AW").done();
        due.is("4: of 7 x", x.set(7, 5), 299);
        due.is("4: x is SEED", x.told(9), 5);
    }

    private static void sayAndWipe() {
        StraitFleet x = new StraitFleet();
        due.is("5: below", x.say(32), OUTSIDE);
        due.is("5: above", x.say(127), OUTSIDE);
        for (int i = 1; i <= 60; i++) {
            due.is("5: say", x.say(i % 2 == 0 ? 33 : 126), i);
        }
        due.is("5: full", x.say(33), FULL);
        due.is("5: outside before full", x.say(32), OUTSIDE);
        due.is("5: signs", x.told(0), 60);
        due.is("6: wipe", x.wipe(), 60);
        due.is("6: wiped", x.wipe(), 0);
        due.is("6: signs", x.told(0), 0);
        due.is("6: say", x.say(33), 1);
    }

    private static void faultOfTide() {
        String digits24 = "123456789012345678901234";
        tideFault("", 0);
        tideFault("0", NONE);
        tideFault("x", 0);
        tideFault("12.", 2);
        tideFault("1/1", 1);
        tideFault("9:", 1);
        tideFault(digits24, NONE);
        tideFault(digits24 + "5", 24);
        tideFault(digits24 + "x", 24);
        tideFault(digits24.substring(1) + "x", 23);
        StraitFleet x = new StraitFleet();
        due.is("7: how", x.fault(-1), OUTSIDE);
        due.is("7: how", x.fault(2), OUTSIDE);
    }

    private static void tideFault(String text, int want) {
        StraitFleet x = Due.text(new StraitFleet(), text);
        due.is("7: fault(0) of " + text, x.fault(0), want);
        due.is("8: tide of " + text, x.tide(), want == NONE ? text.length() : NO);
        due.is("8: pad behind " + text, x.told(0), want == NONE ? 0 : text.length());
        due.is("8: digits behind " + text, x.told(10), want == NONE ? text.length() : 1);
    }

    private static void faultOfSeason() {
        seasonFault("", NONE);
        seasonFault("A", 1);
        seasonFault("AT", NONE);
        seasonFault("CC", NONE);
        seasonFault("CCC", 3);
        seasonFault("..", NONE);
        seasonFault(".FW.EC", NONE);
        seasonFault("G", 0);
        seasonFault("@", 0);
        seasonFault("T", 0);
        seasonFault("W", 0);
        seasonFault("A.", 1);
        seasonFault("AA", 1);
        seasonFault("AX", 1);
        seasonFault("at", 0);
        seasonFault("AT,", 2);
        seasonFault("AT.B", 4);
        seasonFault("ATT", 2);
        seasonFault("0", 0);
    }

    private static void seasonFault(String text, int want) {
        StraitFleet x = Due.text(new StraitFleet(), text);
        for (int ship = 0; ship < 6; ship++) {
            x.ship(ship, 9, 0, 0);
        }
        due.is("7: fault(1) of " + text, x.fault(1), want);
        due.is("9: judge of " + text, x.judge(0), want == NONE ? NONE : NO);
        due.is("11: behind " + text, x.behind(0, 2), want == NONE ? 0 : NO);
        if (want != NONE) {
            due.is("12: done of " + text, x.done(), NO);
            due.is("12: pad stays", x.told(0), text.length());
        }
    }

    private static void tide() {
        StraitFleet x = Due.withTide("059");
        for (int hour = 0; hour < 24; hour++) {
            due.is("8: digit", x.told(100 + hour), hour % 3 == 0 ? 0 : hour % 3 == 1 ? 5 : 9);
        }
        due.is("8: NO of an empty pad", x.tide(), NO);
        due.is("8: refused changes nothing", x.told(10), 3);
        Due.text(x, "7").tide();
        due.is("8: shorter", x.told(10), 1);
        due.is("8: shorter", x.told(101), 7);
    }

    private static void judge() {
        judged("", NONE, NONE);
        judged("ATBW.", NONE, NONE);
        judged("ATAT", 1, 2);
        judged("AW..AW", 3, 2);
        judged("FT", 0, 1);
        judged(".FT", 1, 1);
        judged("AT.FCAT", 2, 1);
        judged("ATAT.FC", 1, 2);
        judged("CT", 0, 2);
        judged("BWCT", 1, 2);
        StraitFleet x = new StraitFleet();
        due.is("9: what", x.judge(-1), OUTSIDE);
        due.is("9: what", x.judge(2), OUTSIDE);
        Due.text(x, "?");
        due.is("9: what before fault", x.judge(2), OUTSIDE);
        due.is("9: fault", x.judge(1), NO);
        Due.text(x, "AT");
        due.is("9: no such ship", x.judge(1), 1);
        Due.text(x, "");
        due.is("9: a season is judged by itself", x.judge(1), NONE);
        due.is("9: a season is judged by itself", x.judge(0), NONE);
    }

    /** Ships A and B are in the harbour, C is through; no other is. */
    private static void judged(String text, int part, int why) {
        StraitFleet x = new StraitFleet();
        x.ship(0, 9, 0, 0);
        x.ship(1, 9, 0, 0);
        x.ship(2, 9, 0, 0);
        Due.text(x, "CC").done();
        Due.text(x, text);
        due.is("9: part of " + text, x.judge(0), part);
        due.is("9: why of " + text, x.judge(1), why);
        due.is("9: judging changes nothing", x.state(0, 0), 0);
        if (part != NONE) {
            due.is("11: NO behind " + text, x.behind(0, 0), NO);
            due.is("12: NO done " + text, x.done(), NO);
            due.is("12: nothing changed", x.state(0, 1), 9);
            due.is("12: pad stays", x.told(0), text.length());
        }
    }

    private static void byTeeth() {
        teeth(10, 0, 1, 4, 0);
        teeth(10, 3, 1, 7, 0);
        teeth(10, 6, 1, 10, 0);
        teeth(10, 9, 1, 10, 3);
        teeth(7, 0, 1, 1, 0);
        teeth(6, 0, 2, 0, 0);
        teeth(1, 0, 2, 0, 0);
        teeth(3, 3, 2, 0, 0);
        teeth(3, 4, 1, 1, 0);
        teeth(1, 9, 1, 1, 3);
    }

    private static void teeth(int men, int straw, int where, int menLeft, int strawLeft) {
        String of = men + " men and " + straw + " of straw by T";
        StraitFleet x = Due.withTide("9");
        x.ship(2, men, straw, 70);
        Due.text(x, "CT");
        due.is("11: where, " + of, x.behind(2, 0), where);
        due.is("11: men, " + of, x.behind(2, 1), menLeft);
        due.is("11: straw, " + of, x.behind(2, 2), strawLeft);
        due.is("10: still in the harbour", x.state(2, 0), 0);
        due.is("10: still all men", x.state(2, 1), men);
        due.is("12: done, " + of, x.done(), 1);
        due.is("10: where, " + of, x.state(2, 0), where);
        due.is("10: men, " + of, x.state(2, 1), menLeft);
        due.is("10: straw, " + of, x.state(2, 2), strawLeft);
        due.is("12: cargo, " + of, x.told(32), where == 2 ? 0 : 70);
        due.is("13: men lost, " + of, x.sum(0), men - menLeft);
        due.is("13: cargo lost, " + of, x.sum(1), where == 2 ? 70 : 0);
        due.is("13: paid, " + of, x.sum(2), 0);
        due.is("12: no draw by T", x.told(9), 1);
    }

    private static void byWhirl() {
        for (int digit = 0; digit < 10; digit++) {
            StraitFleet x = Due.withTide("" + digit);
            x.set(7, 3); // becomes 299: left over by 10 it is 9
            x.ship(0, 8, 5, 60);
            Due.text(x, "AW").done();
            due.is("12: 9 is not below " + digit, x.state(0, 0), 1);
            due.is("12: straw stays", x.state(0, 2), 5);
            x.set(7, 0); // becomes 74, then 5624
            x.ship(0, 8, 5, 60);
            x.ship(1, 7, 4, 50);
            Due.text(x, "AWBW").done();
            boolean lost = digit > 4;
            due.is("12: 4 below " + digit, x.state(0, 0), lost ? 2 : 1);
            due.is("12: men", x.state(0, 1), lost ? 0 : 8);
            due.is("12: straw", x.state(0, 2), lost ? 0 : 5);
            due.is("12: cargo", x.told(30), lost ? 0 : 60);
            due.is("12: 4 below " + digit, x.state(1, 0), lost ? 2 : 1);
            due.is("12: x goes on", x.told(9), 5624);
            due.is("13: men", x.sum(0), lost ? 15 : 0);
            due.is("13: cargo", x.sum(1), lost ? 110 : 0);
            due.is("13: paid", x.sum(2), 0);
        }
        StraitFleet x = Due.withTide("9");
        x.set(7, 9999); // 75 times 9999 and 74 is 749999; left over by 65537 it is 29092
        x.ship(0, 1, 0, 0);
        Due.text(x, "AW").done();
        due.is("12: left over by 65537", x.told(9), 29092);
    }

    private static void byCape() {
        StraitFleet x = Due.withTide("9");
        x.set(2, 3);
        x.set(3, 7);
        x.ship(4, 11, 5, 80);
        Due.text(x, "EC");
        due.is("12: by C", x.done(), 1);
        due.is("10: through", x.state(4, 0), 1);
        due.is("10: men", x.state(4, 1), 11);
        due.is("10: straw", x.state(4, 2), 5);
        due.is("12: cargo", x.told(34), 80);
        due.is("13: paid", x.sum(2), 231);
        due.is("13: men", x.sum(0), 0);
        due.is("13: cargo", x.sum(1), 0);
        due.is("12: no draw by C", x.told(9), 1);
    }

    private static void hoursOfASeason() {
        // the draws from 0 on end in 4: lost from the digit 5 on
        String[] seasons = {"AW", ".AW", "..AW", "...AW", ".B.W"};
        int[] where = {1, 2, 1, 2, NO};
        for (int i = 0; i < seasons.length; i++) {
            StraitFleet x = Due.withTide("45395");
            x.set(7, 0);
            x.ship(0, 5, 0, 0);
            Due.text(x, seasons[i]);
            due.is("11: the hour of " + seasons[i], x.behind(0, 0), where[i]);
        }
        StraitFleet x = Due.withTide("45");
        x.set(7, 0);
        x.ship(0, 5, 0, 0);
        x.ship(1, 5, 0, 0);
        due.is("12: hours are parts", Due.text(x, "...").done(), 3);
        due.is("12: parts", Due.text(x, "AW.BW").done(), 3);
        due.is("12: each season begins in hour 0", x.state(0, 0), 1);
        due.is("12: an hour later", x.state(1, 0), 2);
    }

    private static void behindAndDone() {
        StraitFleet x = new StraitFleet();
        x.ship(0, 9, 0, 0);
        Due.text(x, "AT");
        due.is("11: no such ship", x.behind(1, 0), UNKNOWN);
        due.is("11: number", x.behind(-1, 0), UNKNOWN);
        due.is("11: number", x.behind(6, 9), UNKNOWN);
        due.is("11: what", x.behind(0, -1), OUTSIDE);
        due.is("11: what", x.behind(0, 3), OUTSIDE);
        due.is("10: no such ship", x.state(1, 3), UNKNOWN);
        due.is("10: number", x.state(-1, 0), UNKNOWN);
        due.is("10: number", x.state(6, 0), UNKNOWN);
        due.is("10: what", x.state(0, -1), OUTSIDE);
        due.is("10: what", x.state(0, 3), OUTSIDE);
        Due.text(x, "?");
        due.is("11: what before fault", x.behind(0, 3), OUTSIDE);
        Due.text(x, "AT");
        due.is("12: done", x.done(), 1);
        due.is("12: pad is empty", x.told(0), 0);
        due.is("12: nothing more", x.done(), 0);
        due.is("11: behind nothing", x.behind(0, 1), 3);
        Due.text(x, "AT");
        due.is("9: not in the harbour any more", x.judge(1), 2);
        x.ship(1, 4, 0, 0);
        Due.text(x, "BW");
        x.set(7, 77);
        x.behind(1, 0);
        x.judge(0);
        due.is("11: no draw is used up", x.told(9), 77);
    }

    private static void sums() {
        StraitFleet x = Due.withTide("9");
        x.set(7, 0);
        for (int round = 1; round <= 3; round++) {
            x.ship(0, 5, 1, 11);
            x.ship(1, 5, 0, 13);
            x.ship(2, 10, 0, 17);
            x.ship(3, 2, 0, 0);
            Due.text(x, "ATBTCTDC").done();
            due.is("13: men", x.sum(0), 16 * round);
            due.is("13: cargo", x.sum(1), 24 * round);
            due.is("13: paid", x.sum(2), 40 * round);
        }
        x.scrap(0);
        due.is("13: stay", x.sum(0), 48);
        due.is("13: what", x.sum(-1), OUTSIDE);
        due.is("13: what", x.sum(3), OUTSIDE);
    }
}
