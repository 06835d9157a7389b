import java.io.IOException;
import java.lang.reflect.Field;
import java.lang.reflect.Method;
import java.lang.reflect.Modifier;
import java.nio.file.Files;
import java.nio.file.Path;
import java.util.Set;
import java.util.TreeSet;
import java.util.regex.Matcher;
import java.util.regex.Pattern;

/** The document's face, and those rules of LANGUAGE.md that can be seen from the text and the compiled class. */
public final class LanguageTest {
    private static final Due due = new Due("LanguageTest");
    private static final String[] FACE = {
        "int ship(int,int,int,int)", "int scrap(int)", "int set(int,int)", "int say(int)", "int wipe()",
        "int fault(int)", "int tide()", "int judge(int)", "int state(int,int)", "int behind(int,int)", "int done()",
        "int sum(int)", "int mean(int,int,int)", "int worst(int,int,int)", "int choice(int,int)",
        "int held(int,int,int)", "int bound(int,int,int)", "int line(int,int,int)", "int convoy(int,int)",
        "int captain(int,int)", "int persuaded(int,int)", "int offer(int,int,int)", "int noOffers()",
        "int insured(int,int,int)", "int aboard(int,int)", "int ashore(int)", "long lot(int,int,int)",
        "long often(int,int,int,int,int)", "int roll(int,int)", "int forget()", "int twice(int)", "long burnt()",
        "int years(int,int,int,int)", "int image(int)", "int restore(int)", "int told(int)",
    };

    public static void main(String[] args) throws IOException {
        face();
        classesInside();
        text(Files.readString(Path.of("src/main/java/StraitFleet.java")));
        due.close();
    }

    private static void face() {
        Set<String> open = new TreeSet<>();
        Set<String> openNames = new TreeSet<>();
        Set<String> hidden = new TreeSet<>();
        for (Method m : StraitFleet.class.getDeclaredMethods()) {
            if (!m.isSynthetic() && !Modifier.isPrivate(m.getModifiers())) {
                StringBuilder row = new StringBuilder(m.getReturnType() + " " + m.getName() + "(");
                for (Class<?> type : m.getParameterTypes()) {
                    row.append(row.charAt(row.length() - 1) == '(' ? "" : ",").append(type);
                }
                open.add(row.append(')').toString());
                openNames.add(m.getName());
                due.holds(m.getName() + " is public and no static one", m.getModifiers() == Modifier.PUBLIC);
            } else {
                hidden.add(m.getName());
            }
        }
        due.holds("the methods are those of the document", open.equals(new TreeSet<>(Set.of(FACE))));
        for (Class<?> c : StraitFleet.class.getDeclaredClasses()) {
            for (Method m : c.getDeclaredMethods()) {
                hidden.add(m.getName());
            }
        }
        hidden.retainAll(openNames);
        due.is("other methods that bear the name of a public one", hidden.size(), 0);
        due.holds("the class is public and final", StraitFleet.class.getModifiers() == (Modifier.PUBLIC | Modifier.FINAL));
        due.is("constructors", StraitFleet.class.getDeclaredConstructors().length, 1);
        int constants = 0;
        for (Field f : StraitFleet.class.getDeclaredFields()) {
            boolean fixed = Modifier.isStatic(f.getModifiers()) && Modifier.isFinal(f.getModifiers());
            due.holds(f.getName() + " is private or a constant", Modifier.isPrivate(f.getModifiers()) || fixed);
            constants += Modifier.isPublic(f.getModifiers()) ? 1 : 0;
        }
        due.is("public constants", constants, 7);
    }

    private static void classesInside() {
        Class<?>[] inside = StraitFleet.class.getDeclaredClasses();
        due.holds("classes inside are twelve at most", inside.length <= 12);
        for (Class<?> c : inside) {
            due.holds(c.getName() + " is static", Modifier.isStatic(c.getModifiers()));
            int fields = 0;
            for (Field f : c.getDeclaredFields()) {
                boolean still = Modifier.isStatic(f.getModifiers());
                fields += still ? 0 : 1;
                due.holds(f.getName() + ", if it is static, is final", !still || Modifier.isFinal(f.getModifiers()));
            }
            due.holds(c.getName() + " has twenty fields at most", fields <= 20);
            for (Method m : c.getDeclaredMethods()) {
                due.holds(m.getName() + " takes seven at most", m.getParameterCount() <= 7);
            }
        }
    }

    private static void text(String text) {
        String code = text.replaceAll("(?s)/\\*.*?\\*/", " ").replaceAll("//[^\n]*", " ").replaceAll("'.'", "0");
        String[] words = {
            "throw", "throws", "try", "catch", "synchronized", "assert", "package", "protected", "hashCode",
            "System\\.(?!arraycopy)", "Math\\.\\w+Exact",
        };
        for (String word : words) {
            due.holds("no " + word, !Pattern.compile("\\b" + word + (word.endsWith(")") ? "" : "\\b")).matcher(code).find());
        }
        due.holds("no lambda", !code.contains("->"));
        due.holds("no method reference", !code.contains("::"));
        due.holds("signs 1 to 127 alone", text.chars().allMatch(sign -> sign > 0 && sign < 128));
        Matcher method = Pattern.compile("(?ms)^( {4}| {8})(?=\\S)[^\n;=]*\\) \\{\n.*?^\\1\\}$").matcher(text);
        int methods = 0;
        while (method.find()) {
            methods++;
            String[] lines = method.group().split("\n");
            due.holds("short: " + lines[0].trim(), lines.length <= 60);
        }
        due.holds("methods are found", methods > 80);
    }
}
