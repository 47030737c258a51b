import java.io.IOException;
import java.lang.reflect.Method;
import java.lang.reflect.Modifier;
import java.nio.file.Files;
import java.nio.file.Path;
import java.util.Set;
import java.util.TreeSet;
import java.util.regex.Matcher;
import java.util.regex.Pattern;

/** The calls that README.md shows answer what it says, and it shows every call of the face. */
public final class ReadmeTest {
    private static final Path README = Path.of("README.md");
    private static final Pattern BLOCK = Pattern.compile("(?ms)^```java\n(.*?)^```");
    private static final String ANSWER = "\\);\\s+// (-?\\d+)\\b.*";
    private static final Pattern TOLD = Pattern.compile("tell\\(x, \"([^\"]*)\"" + ANSWER);
    private static final Pattern CALL = Pattern.compile("x\\.(\\w+)\\(([^)]*)" + ANSWER);

    private static final Set<String> SHOWN = new TreeSet<>();
    private static int answers = 0;
    private static int wrong = 0;

    private static void complain(String what) {
        wrong++;
        System.out.println("README.md: " + what);
    }

    public static void main(String[] args) throws IOException, ReflectiveOperationException {
        String text = Files.readString(README);
        Matcher block = BLOCK.matcher(text);
        while (block.find()) {
            run(block.group(1).split("\n"));
        }
        for (Method method : WithTheSameOne.class.getDeclaredMethods()) {
            if (Modifier.isPublic(method.getModifiers())) {
                isTold(text, method.getName());
            }
        }
        System.out.println(answers + " answers, " + wrong + " not as README.md says");
        if (wrong != 0) {
            System.exit(1);
        }
    }

    private static void isTold(String text, String name) {
        if (!text.contains("| `" + name + "(")) {
            complain("no table tells of " + name);
        }
        if (!SHOWN.contains(name)) {
            complain("no example shows " + name);
        }
    }

    private static void run(String[] lines) throws ReflectiveOperationException {
        // The helper is written again here: feedAll.
        if (lines[0].startsWith("static int tell(")) {
            return;
        }
        WithTheSameOne x = null;
        for (String line : lines) {
            Matcher told = TOLD.matcher(line);
            Matcher call = CALL.matcher(line);
            if (line.equals("WithTheSameOne x = new WithTheSameOne();")) {
                x = new WithTheSameOne();
            } else if (x != null && told.matches()) {
                due(line, feedAll(x, told.group(1)), told.group(2));
            } else if (x != null && call.matches()) {
                due(line, answer(x, call.group(1), call.group(2)), call.group(3));
            } else {
                complain("a line that can't be looked at: " + line);
            }
        }
    }

    private static void due(String line, int got, String want) {
        answers++;
        if (got != Integer.parseInt(want)) {
            complain(line + " answered " + got);
        }
    }

    private static int feedAll(WithTheSameOne x, String letters) {
        for (int i = 0; i < letters.length(); i++) {
            x.feed(letters.charAt(i));
        }
        SHOWN.add("feed");
        SHOWN.add("ball");
        return x.ball();
    }

    private static int answer(WithTheSameOne x, String name, String told) throws ReflectiveOperationException {
        String[] texts = told.isEmpty() ? new String[0] : told.split(", ");
        Class<?>[] types = new Class<?>[texts.length];
        Object[] numbers = new Object[texts.length];
        for (int i = 0; i < texts.length; i++) {
            types[i] = int.class;
            numbers[i] = number(texts[i]);
        }
        SHOWN.add(name);
        return (int) WithTheSameOne.class.getMethod(name, types).invoke(x, numbers);
    }

    private static int number(String text) {
        return text.startsWith("'") ? text.charAt(1) : Integer.parseInt(text);
    }
}
