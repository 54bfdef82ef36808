import java.io.IOException;
import java.lang.reflect.Method;
import java.nio.file.Files;
import java.nio.file.Path;
import java.util.regex.Matcher;
import java.util.regex.Pattern;

/** The calls that README.md shows, made one after the other, answer what is told behind them. */
public final class ReadmeTest {
    private static final Check CHECK = new Check("ReadmeTest");
    private static final String NEW_OBJECT = "SplitTowers x = new SplitTowers();";
    private static final Pattern TEXT = Pattern.compile("text\\(x, \"(.*)\"\\);");
    private static final Pattern CALL = Pattern.compile("x\\.(\\w+)\\(([-0-9, ]*)\\);\\s*// (-?\\d+)(:.*)?");
    private static final int FEWEST_CALLS = 30;

    private SplitTowers x;
    private int calls;

    public static void main(String[] args) throws IOException, ReflectiveOperationException {
        ReadmeTest test = new ReadmeTest();
        for (String line : Files.readAllLines(Path.of("README.md"))) {
            test.show(line);
        }
        CHECK.that("README.md shows calls: " + test.calls, test.calls >= FEWEST_CALLS);
        CHECK.done();
    }

    private void show(String line) throws ReflectiveOperationException {
        Matcher text = TEXT.matcher(line);
        Matcher call = CALL.matcher(line);
        if (line.equals(NEW_OBJECT)) {
            x = new SplitTowers();
        } else if (text.matches()) {
            Check.text(x, text.group(1));
        } else if (call.matches()) {
            calls++;
            CHECK.due(line, answer(call.group(1), call.group(2)), Integer.parseInt(call.group(3)));
        } else {
            CHECK.that("an answer is told in: " + line, !line.startsWith("x."));
        }
    }

    private int answer(String name, String arguments) throws ReflectiveOperationException {
        String[] told = arguments.isEmpty() ? new String[0] : arguments.split(", ");
        Object[] values = new Object[told.length];
        for (int k = 0; k < told.length; k++) {
            values[k] = Integer.valueOf(told[k]);
        }
        for (Method method : SplitTowers.class.getMethods()) {
            if (method.getName().equals(name) && method.getParameterCount() == values.length) {
                return (Integer) method.invoke(x, values);
            }
        }
        throw new NoSuchMethodException(name);
    }
}
