import java.io.IOException;
import java.lang.reflect.Field;
import java.lang.reflect.Method;
import java.lang.reflect.Modifier;
import java.nio.file.Files;
import java.nio.file.Path;
import java.util.regex.Matcher;
import java.util.regex.Pattern;

/** The examples of README.md answer what stands behind them there, and its tables name every call and constant. */
final class ReadmeTest {
    private static final String NEW_OBJECT = "ConstrainedCoder coder = new ConstrainedCoder();";
    private static final Pattern BLOCK = Pattern.compile("(?s)```java\n(.*?)```");
    private static final Pattern CALL = Pattern.compile("coder\\.(\\w+)\\((.*)\\); +// (NONE|\\d+)(?!\\w).*");

    private ReadmeTest() {
    }

    static void run(Check check, String file) throws IOException, ReflectiveOperationException {
        check.about("README.md");
        String text = Files.readString(Path.of(file));
        Matcher blocks = BLOCK.matcher(text);
        int calls = 0;
        while (blocks.find()) {
            calls += runBlock(check, blocks.group(1));
        }
        check.holds("there are examples", calls > 0);
        for (Method method : ConstrainedCoder.class.getDeclaredMethods()) {
            if (Modifier.isPublic(method.getModifiers())) {
                check.holds("names " + method.getName(), text.contains("`" + method.getName() + "`"));
            }
        }
        for (Field field : ConstrainedCoder.class.getDeclaredFields()) {
            if (Modifier.isPublic(field.getModifiers())) {
                String row = "| `" + field.getName() + "` " + field.getInt(null) + " |";
                check.holds("has the row " + row, text.contains(row));
            }
        }
    }

    private static int runBlock(Check check, String block) throws ReflectiveOperationException {
        ConstrainedCoder coder = new ConstrainedCoder();
        int calls = 0;
        for (String line : block.split("\n")) {
            if (line.equals(NEW_OBJECT)) {
                continue;
            }
            Matcher call = CALL.matcher(line);
            boolean read = call.matches();
            check.holds("a call with its answer: " + line, read);
            if (read) {
                long due = call.group(3).equals("NONE") ? ConstrainedCoder.NONE : Long.parseLong(call.group(3));
                check.is(line, Calls.answer(coder, call.group(1), call.group(2)), due);
                calls++;
            }
        }
        return calls;
    }
}
