/** All that can be seen of an object, but for the pad and what an image holds, as a text. */
final class Snapshot {
    private Snapshot() {
    }

    static String of(StraitFleet x) {
        StringBuilder text = new StringBuilder();
        for (int what = 1; what <= 13; what++) {
            text.append(x.told(what)).append(' ');
        }
        for (int name = 0; name < 8; name++) {
            text.append(x.told(20 + name)).append(' ');
        }
        for (int hour = 0; hour < 24; hour++) {
            text.append(x.told(100 + hour));
        }
        for (int ship = 0; ship < 6; ship++) {
            text.append(" / ").append(x.told(30 + ship));
            for (int what = 0; what < 3; what++) {
                text.append(' ').append(x.state(ship, what)).append(' ').append(x.insured(ship, 1, what));
            }
        }
        for (int what = 0; what < 3; what++) {
            text.append(" + ").append(x.sum(what));
        }
        text.append(" = ").append(x.twice(0)).append(' ').append(x.twice(1)).append(' ').append(x.burnt());
        return text.toString();
    }
}
