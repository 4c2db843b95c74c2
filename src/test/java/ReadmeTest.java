import java.lang.reflect.Method;
import java.nio.charset.StandardCharsets;
import java.nio.file.Files;
import java.nio.file.Path;
import java.util.regex.Matcher;
import java.util.regex.Pattern;

/** The calls that README.md shows answer what stands behind them. */
public final class ReadmeTest {
    private static final Pattern CALL = Pattern.compile("x\\.(\\w+)\\(([^;]*)\\);\\s+// (-?\\d+)(:.*)?");
    private static final Pattern SHIFT = Pattern.compile("(\\d+) << (\\d+)");
    private static final Pattern ROW = Pattern.compile("\\| (-\\d+) \\| ([A-Z]+) \\| (\\d) \\|");

    public static void main(String[] args) throws Exception {
        AcreBuys x = null;
        int calls = 0;
        int findings = 0;
        for (String line : Files.readString(Path.of("README.md"), StandardCharsets.UTF_8).split("\n")) {
            Matcher call = CALL.matcher(line);
            Matcher row = ROW.matcher(line);
            if (line.equals("AcreBuys x = new AcreBuys();")) {
                x = new AcreBuys();
            } else if (line.startsWith("x.")) {
                Check.isTrue("has an answer: " + line, x != null && call.matches());
                Check.due(line, answer(x, call.group(1), call.group(2)), Long.parseLong(call.group(3)));
                calls++;
            } else if (row.matches()) {
                long answer = Check.class.getDeclaredField(row.group(2)).getInt(null);
                Check.due(line, Long.parseLong(row.group(1)), answer);
                Check.due(line, Long.parseLong(row.group(3)), -1000000001 - answer);
                findings++;
            }
        }
        Check.isTrue("calls are shown", calls > 20);
        Check.due("findings", findings, 7);
        Check.end();
    }

    private static long answer(AcreBuys x, String name, String arguments) throws Exception {
        for (Method method : AcreBuys.class.getMethods()) {
            if (method.getName().equals(name)) {
                String[] texts = arguments.isEmpty() ? new String[0] : arguments.split(", ");
                Object[] values = new Object[texts.length];
                for (int i = 0; i < texts.length; i++) {
                    boolean isLong = method.getParameterTypes()[i] == long.class;
                    int value = value(texts[i]);
                    values[i] = isLong ? (Object) Long.valueOf(value) : (Object) Integer.valueOf(value);
                }
                return ((Number) method.invoke(x, values)).longValue();
            }
        }
        throw new IllegalStateException("no such call: " + name);
    }

    private static int value(String text) {
        Matcher shift = SHIFT.matcher(text);
        if (shift.matches()) {
            return Integer.parseInt(shift.group(1)) << Integer.parseInt(shift.group(2));
        }
        return Integer.decode(text);
    }
}
