import java.io.IOException;
import java.nio.file.Files;
import java.nio.file.Path;
import java.util.Set;
import java.util.TreeSet;
import java.util.regex.Matcher;
import java.util.regex.Pattern;

// What README.md shows must be so: the answers of its example, and a row for each method.
public final class ReadmeTest {
    private static final Path README = Path.of("README.md");
    private static final Pattern EXAMPLE = Pattern.compile("(?m)^engine\\.(\\w+)\\(([^)]*)\\); *// (\\w+|-\\d+)");
    private static final Pattern ROW = Pattern.compile("(?m)^\\| `(\\w+)\\(([^)]*)\\)`");

    private static int wrong = 0;

    private static void fault(String what) {
        wrong++;
        System.out.println(what);
    }

    private static int number(String word) {
        return switch (word) {
            case "BAD" -> AriesEngine.BAD;
            case "IDLE" -> AriesEngine.IDLE;
            case "HELD" -> AriesEngine.HELD;
            case "FULL" -> AriesEngine.FULL;
            default -> Integer.parseInt(word);
        };
    }

    private static int answer(AriesEngine engine, String method, String arguments) throws ReflectiveOperationException {
        String[] words = arguments.isEmpty() ? new String[0] : arguments.split(", *");
        Class<?>[] types = new Class<?>[words.length];
        Object[] numbers = new Object[words.length];
        for (int i = 0; i < words.length; i++) {
            types[i] = int.class;
            numbers[i] = number(words[i]);
        }
        return (Integer) AriesEngine.class.getMethod(method, types).invoke(engine, numbers);
    }

    private static void checkExample(String text) throws ReflectiveOperationException {
        AriesEngine engine = new AriesEngine(2);
        Matcher rows = EXAMPLE.matcher(text);
        int count = 0;
        while (rows.find()) {
            count++;
            int got = answer(engine, rows.group(1), rows.group(2));
            if (got != number(rows.group(3))) {
                fault(rows.group() + " answered " + got);
            }
        }
        if (count != text.split("\nengine\\.", -1).length - 1) {
            fault("the example has rows without an answer");
        }
    }

    private static void checkTable(String text) {
        Set<String> shown = new TreeSet<>();
        Matcher rows = ROW.matcher(text);
        while (rows.find()) {
            int count = rows.group(2).isEmpty() ? 0 : rows.group(2).split(",").length;
            shown.add(rows.group(1) + "/" + count);
        }
        Set<String> due = new TreeSet<>();
        for (var method : AriesEngine.class.getMethods()) {
            if (method.getDeclaringClass() == AriesEngine.class) {
                due.add(method.getName() + "/" + method.getParameterCount());
            }
        }
        if (!shown.equals(due)) {
            fault("the table has " + shown + ", the class " + due);
        }
    }

    public static void main(String[] args) throws IOException, ReflectiveOperationException {
        String text = Files.readString(README);
        checkExample(text);
        checkTable(text);
        System.out.println(wrong == 0 ? "README.md is as the class is" : wrong + " faults in README.md");
        if (wrong != 0) {
            System.exit(1);
        }
    }
}
