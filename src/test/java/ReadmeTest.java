import java.io.IOException;
import java.lang.reflect.InvocationTargetException;
import java.lang.reflect.Method;
import java.nio.file.Files;
import java.nio.file.Path;
import java.util.regex.Matcher;
import java.util.regex.Pattern;

/** Makes the calls that README.md shows, and compares the answers with those that it tells. */
public final class ReadmeTest {
    private static final Judge judge = new Judge();
    private static final Pattern TELL = Pattern.compile("tell\\(x, \"(.*)\"\\);");
    private static final Pattern CALL = Pattern.compile("x\\.(\\w+)\\((.*)\\); +// (-?\\d+): .*");

    public static void main(String[] args) throws IOException, ReflectiveOperationException {
        OneChairShort x = new OneChairShort();
        int calls = 0;
        for (String line : Files.readAllLines(Path.of("README.md"))) {
            Matcher tell = TELL.matcher(line);
            Matcher call = CALL.matcher(line);
            if (tell.matches()) {
                Told.text(x, tell.group(1));
            } else if (call.matches()) {
                judge.due(line, answer(x, call.group(1), call.group(2)), Long.parseLong(call.group(3)));
                calls++;
            } else {
                judge.due("no call that is not judged: " + line, line.startsWith("x.") || line.startsWith("tell("), false);
            }
        }
        judge.due("calls were found", calls > 20, true);
        judge.finish("ReadmeTest");
    }

    private static int answer(OneChairShort x, String name, String told) throws ReflectiveOperationException {
        String[] texts = told.isEmpty() ? new String[0] : told.split(", ");
        Object[] numbers = new Object[texts.length];
        for (int k = 0; k < texts.length; k++) {
            numbers[k] = Integer.valueOf(texts[k]);
        }
        for (Method m : OneChairShort.class.getMethods()) {
            if (m.getName().equals(name) && m.getParameterCount() == numbers.length) {
                try {
                    return (Integer) m.invoke(x, numbers);
                } catch (InvocationTargetException e) {
                    throw new IllegalStateException("README.md has " + name + "(" + told + "), which throws", e.getCause());
                }
            }
        }
        throw new IllegalStateException("README.md has " + name + "(" + told + "), which there is not");
    }
}
