import java.io.IOException;
import java.lang.reflect.Method;
import java.nio.file.Files;
import java.nio.file.Path;
import java.util.Set;
import java.util.TreeSet;
import java.util.regex.Matcher;
import java.util.regex.Pattern;

/** Carries out the example of README.md: the last call of each row answers the number that its remark begins with. */
public final class ReadmeTest {
    private static final Pattern ROW = Pattern.compile("(x\\..*;) +// (-?\\d+): .+");
    private static final Pattern CALL = Pattern.compile("x\\.(\\w+)\\((.*?)\\);");
    private static final Due due = new Due("ReadmeTest");

    public static void main(String[] args) throws IOException, ReflectiveOperationException {
        StraitFleet x = new StraitFleet();
        Set<String> files = new TreeSet<>();
        String text = Files.readString(Path.of("README.md"));
        int rows = 0;
        for (String line : text.split("\n")) {
            Matcher row = ROW.matcher(line);
            due.is(line + " is a row with an answer", row.matches() ? 1 : 0, line.startsWith("x.") ? 1 : 0);
            if (row.matches()) {
                rows++;
                due.is(row.group(1), lastAnswer(x, row.group(1)), Long.parseLong(row.group(2)));
            }
        }
        due.holds("rows are found", rows > 20);
        try (var tests = Files.newDirectoryStream(Path.of("src/test/java"), "*Test.java")) {
            tests.forEach(file -> files.add(file.getFileName().toString().replace(".java", "")));
        }
        for (String test : files) {
            due.holds("README.md names " + test, text.contains("`" + test + "`"));
        }
        due.close();
    }

    private static long lastAnswer(StraitFleet x, String row) throws ReflectiveOperationException {
        long answer = Long.MIN_VALUE;
        Matcher call = CALL.matcher(row);
        while (call.find()) {
            String[] words = call.group(2).isEmpty() ? new String[0] : call.group(2).split(", ");
            Object[] numbers = new Object[words.length];
            for (int i = 0; i < words.length; i++) {
                numbers[i] = words[i].startsWith("'") ? (int) words[i].charAt(1) : Integer.parseInt(words[i]);
            }
            answer = ((Number) named(call.group(1)).invoke(x, numbers)).longValue();
        }
        return answer;
    }

    private static Method named(String name) throws NoSuchMethodException {
        for (Method method : StraitFleet.class.getDeclaredMethods()) {
            if (method.getName().equals(name)) {
                return method;
            }
        }
        throw new NoSuchMethodException(name);
    }
}
