import java.io.IOException;
import java.lang.reflect.Method;
import java.nio.file.Files;
import java.nio.file.Path;
import java.util.regex.Matcher;
import java.util.regex.Pattern;

/** README.md's calls, one after the other on one object, answer what stands behind them there. */
public final class ReadmeTest {
    private static final Due due = new Due("ReadmeTest");
    private static final Pattern ROW = Pattern.compile("x\\.(\\w+)\\((.*)\\); +// (-?\\d+)(:.*)?");

    private ReadmeTest() {
    }

    public static void main(String[] args) throws IOException, ReflectiveOperationException {
        SendForMore x = new SendForMore();
        int calls = 0;
        for (String row : Files.readString(Path.of("README.md")).split("\n")) {
            if (row.startsWith("x.")) {
                Matcher parts = ROW.matcher(row);
                due.isTrue(row + " has its answer behind it", parts.matches());
                due.is(row, ask(x, parts.group(1), parts.group(2)), Long.parseLong(parts.group(3)));
                calls++;
            }
        }
        due.isTrue("README.md has calls", calls > 0 && calls <= Counted.MOST_CALLS);
        due.end();
    }

    private static long ask(SendForMore x, String name, String numbers) throws ReflectiveOperationException {
        String[] texts = numbers.isEmpty() ? new String[0] : numbers.split(", ");
        Object[] values = new Object[texts.length];
        for (Method m : SendForMore.class.getMethods()) {
            if (m.getName().equals(name) && m.getParameterCount() == texts.length) {
                for (int i = 0; i < texts.length; i++) {
                    boolean isChoice = m.getParameterTypes()[i] == boolean.class;
                    values[i] = isChoice ? (Object) Boolean.valueOf(texts[i]) : Integer.valueOf(texts[i]);
                }
                return ((Number) m.invoke(x, values)).longValue();
            }
        }
        throw new NoSuchMethodException(name + "(" + numbers + ")");
    }
}
