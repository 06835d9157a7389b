import java.lang.reflect.InvocationTargetException;
import java.lang.reflect.Method;
import java.util.ArrayList;
import java.util.HashMap;
import java.util.List;
import java.util.Map;
import java.util.Random;
import java.util.Set;

/**
 * Whole runs of 512 calls, of all kinds and in any order, each answer against the one of Model. What one call leaves
 * behind for another (a season done between two images, a ship told anew after it was lost) is looked at here.
 */
public final class WholeRunsTest {
    private static final int RUNS = 1200, CALLS = 512;
    private static final Due due = new Due("WholeRunsTest");
    private static final Random random = new Random(8);

    /** Each call with the least and the most of its numbers, as the document tells them. */
    private static final String[] CALLS_TOLD = {
        "ship 0 5 1 30 0 9 0 999", "scrap 0 5", "set 0 7 0 99", "say 33 126", "wipe", "fault 0 1", "tide", "judge 0 1",
        "state 0 5 0 2", "behind 0 5 0 2", "done", "sum 0 2", "mean 0 5 0 2 0 999", "worst 0 5 0 2 0 999",
        "choice 0 5 0 999", "held 0 5 0 976 0 2", "bound 0 999 0 99999 -1 5", "line 0 999 -1 4 0 1",
        "convoy 0 999 0 1", "captain 0 5 0 999", "persuaded 0 5 0 999", "offer 0 3 0 999 0 9999", "noOffers",
        "insured 0 5 0 999 0 2", "aboard 0 7 0 9", "ashore 0 7", "lot 1 8 0 7 0 1", "often 1 8 0 8 1 8 0 8 0 1",
        "roll 0 255 0 8", "forget", "twice 0 1", "burnt", "years 0 5 0 9999 1 99 0 2", "image 0 1", "restore 0 1",
        "told 0 123",
    };
    /** Those that leave little to ask about. */
    private static final Set<String> SELDOM = Set.of("scrap", "noOffers", "ashore", "forget", "image", "restore");
    private static final int[] ANY = {Integer.MIN_VALUE, -1000, -7, -2, -1, 0, 1, 10, 1000, 65536, Integer.MAX_VALUE};

    private static final Map<String, Method> ofClass = new HashMap<>();
    private static final Map<String, Method> ofModel = new HashMap<>();
    private static final Map<String, int[]> ranges = new HashMap<>();
    private static final List<String> names = new ArrayList<>();
    private static StraitFleet x;
    private static Model model;
    private static int run, asked;

    public static void main(String[] args) throws IllegalAccessException {
        readCalls();
        for (run = 0; run < RUNS && due.allIsWell(); run++) {
            x = new StraitFleet();
            model = new Model();
            asked = 0;
            fit();
            while (asked < CALLS) {
                step();
            }
        }
        due.is("calls that are asked", names.size(), 36);
        due.close();
    }

    private static void readCalls() {
        for (Method m : StraitFleet.class.getDeclaredMethods()) {
            ofClass.put(m.getName(), m);
        }
        for (Method m : Model.class.getDeclaredMethods()) {
            ofModel.put(m.getName(), m);
        }
        for (String row : CALLS_TOLD) {
            String[] words = row.split(" ");
            int[] range = new int[words.length - 1];
            for (int i = 0; i < range.length; i++) {
                range[i] = Integer.parseInt(words[i + 1]);
            }
            names.add(words[0]);
            ranges.put(words[0], range);
        }
    }

    /** Some ships, names and offers, so that few calls are refused; every fourth run begins with nothing. */
    private static void fit() throws IllegalAccessException {
        if (run % 4 == 0) {
            return;
        }
        write(digits());
        ask("tide");
        for (int i = 0; i < 6; i++) {
            ask("ship");
            ask("aboard");
        }
        for (int i = 0; i < 8; i++) {
            ask("set");
        }
        ask("offer");
        ask("offer");
    }

    private static void step() throws IllegalAccessException {
        int kind = random.nextInt(60);
        if (kind == 0) {
            write(digits());
            ask("tide");
        } else if (kind <= 2) {
            write(season());
            ask("judge");
            ask("behind");
            ask(random.nextInt(6) == 0 ? "wipe" : "done");
        } else {
            String name = names.get(random.nextInt(names.size()));
            if (!SELDOM.contains(name) || random.nextInt(5) == 0) {
                ask(name);
            }
        }
    }

    /** At times a sign too many, or one that can not stand there. */
    private static String digits() {
        StringBuilder text = new StringBuilder();
        for (int i = random.nextInt(random.nextInt(4) == 0 ? 26 : 5); i >= 0; i--) {
            text.append(random.nextInt(40) == 0 ? ':' : (char) ('0' + random.nextInt(10)));
        }
        return text.toString();
    }

    private static String season() {
        StringBuilder text = new StringBuilder();
        for (int i = random.nextInt(random.nextInt(20) == 0 ? 40 : 5); i > 0; i--) {
            if (random.nextInt(3) == 0) {
                text.append('.');
            } else {
                text.append((char) ('A' + random.nextInt(random.nextInt(30) == 0 ? 7 : 6)));
                text.append("TWC".charAt(random.nextInt(3)));
            }
        }
        return text.toString();
    }

    /** On a pad that is mostly wiped first. */
    private static void write(String text) throws IllegalAccessException {
        if (random.nextInt(8) > 0) {
            ask("wipe");
        }
        for (int i = 0; i < text.length(); i++) {
            askWith("say", (int) text.charAt(i));
        }
    }

    private static void ask(String name) throws IllegalAccessException {
        int[] range = ranges.get(name);
        Object[] numbers = new Object[range.length / 2];
        for (int i = 0; i < numbers.length; i++) {
            numbers[i] = number(range[2 * i], range[2 * i + 1]);
        }
        askWith(name, numbers);
    }

    /** Within the range, mostly a small one; at times just or far beyond it. */
    private static int number(int least, int most) {
        int kind = random.nextInt(120);
        if (kind == 0) {
            return ANY[random.nextInt(ANY.length)];
        }
        if (kind <= 2) {
            return kind == 1 ? least - 1 : most + 1;
        }
        if (kind <= 8) {
            return kind % 2 == 0 ? least : most;
        }
        int span = random.nextInt(3) == 0 ? Math.min(most - least, 40) : most - least;
        return least + random.nextInt(span + 1);
    }

    private static void askWith(String name, Object... numbers) throws IllegalAccessException {
        if (asked == CALLS) {
            return;
        }
        asked++;
        due.is("run " + run + ", call " + asked + ": " + name + List.of(numbers),
            answer(ofClass.get(name), x, numbers), answer(ofModel.get(name), model, numbers));
    }

    private static long answer(Method method, Object of, Object[] numbers) throws IllegalAccessException {
        try {
            return ((Number) method.invoke(of, numbers)).longValue();
        } catch (InvocationTargetException e) {
            throw new IllegalStateException(method + " threw", e.getCause());
        }
    }
}
