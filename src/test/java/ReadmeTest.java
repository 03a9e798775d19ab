import java.lang.reflect.Method;
import java.nio.file.Files;
import java.nio.file.Path;
import java.util.regex.Matcher;
import java.util.regex.Pattern;

/** The calls that README.md shows, one behind the other on one object, answer what stands behind each. */
public final class ReadmeTest {
    private static final Due DUE = new Due("ReadmeTest");
    private static final Pattern CALL = Pattern.compile("x\\.(\\w+)\\((|[^,]+(?:, [^,]+)*)\\);\\s+// (-?\\d+)\\b.*");

    public static void main(String[] args) throws ReflectiveOperationException, java.io.IOException {
        LettersThatPass x = new LettersThatPass();
        int shown = 0;
        for (String line : Files.readAllLines(Path.of("README.md"))) {
            Matcher call = CALL.matcher(line);
            if (line.startsWith("x.")) {
                shown++;
                DUE.is("a call with its answer: " + line, call.matches() ? 1 : 0, 1);
                DUE.is(line, answer(x, call.group(1), call.group(2)), Long.parseLong(call.group(3)));
            }
        }
        DUE.is("the calls were found", shown > 0 ? 1 : 0, 1);
        DUE.end();
    }

    private static long answer(LettersThatPass x, String name, String told) throws ReflectiveOperationException {
        String[] texts = told.isEmpty() ? new String[0] : told.split(", ");
        Class<?>[] types = new Class<?>[texts.length];
        Object[] values = new Object[texts.length];
        for (int k = 0; k < texts.length; k++) {
            types[k] = int.class;
            values[k] = texts[k].startsWith("'") ? (int) texts[k].charAt(1) : Integer.parseInt(texts[k]);
        }
        Method method = LettersThatPass.class.getMethod(name, types);
        return ((Number) method.invoke(x, values)).longValue();
    }
}
