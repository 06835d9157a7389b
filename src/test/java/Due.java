/** Counts and prints the answers that are not as due. */
final class Due {
    private final String test;
    private int looked = 0;
    private int wrong = 0;
    private int sentences = 0;
    private String sentence = "";
    private int lookedBefore = 0;

    Due(String test) {
        this.test = test;
    }

    /** Begins the test of one sentence of the document: its promise (or Terms) and its words. */
    void sentence(String of, String words) {
        endSentence();
        sentences++;
        sentence = of + ": " + words;
        lookedBefore = looked;
    }

    /** A sentence for which nothing is looked at would seem to hold. */
    private void endSentence() {
        if (sentences > 0 && looked == lookedBefore) {
            is("answers that were looked at", 0, 1);
        }
    }

    void is(String call, long got, long want) {
        looked++;
        if (got != want) {
            wrong++;
            if (wrong <= 40) {
                String where = sentence.isEmpty() ? test : test + " [" + sentence + "]";
                System.out.println(where + ": " + call + " answered " + got + ", due is " + want);
            }
        }
    }

    void holds(String what, boolean does) {
        is(what, does ? 1 : 0, 1);
    }

    /** Whether nothing was wrong till now: after one wrong answer a run tells nothing more. */
    boolean allIsWell() {
        return wrong == 0;
    }

    void close() {
        endSentence();
        String of = sentences == 0 ? "" : " for " + sentences + " sentences";
        System.out.println(test + ": " + looked + " answers" + of + ", " + wrong + " not as due");
        if (wrong != 0) {
            System.exit(1);
        }
    }

    /** Puts a text on a pad that is wiped first. */
    static StraitFleet text(StraitFleet x, String text) {
        x.wipe();
        for (int i = 0; i < text.length(); i++) {
            x.say(text.charAt(i));
        }
        return x;
    }

    /** A new object with that tide. */
    static StraitFleet withTide(String digits) {
        StraitFleet x = new StraitFleet();
        text(x, digits).tide();
        return x;
    }
}
