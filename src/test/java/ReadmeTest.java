import java.lang.reflect.Method;
import java.lang.reflect.Modifier;
import java.nio.file.Files;
import java.nio.file.Path;
import java.util.regex.Matcher;
import java.util.regex.Pattern;

/** README.md's calls answer what it says behind them, and it names each call of the face. */
public final class ReadmeTest {
    private static final Pattern READ = Pattern.compile("^read\\(x, \"([^\"]*)\"\\);\\s*// (-?\\d+)");
    private static final Pattern CALL = Pattern.compile("^x\\.(\\w+)\\(([^)]*)\\);\\s*// (-?\\d+)");

    public static void main(String[] args) throws Exception {
        String page = Files.readString(Path.of("README.md"));
        LargerWithin x = null;
        int calls = 0;
        for (String line : page.split("\n")) {
            if (line.startsWith("LargerWithin x = new LargerWithin();")) x = new LargerWithin();
            Matcher read = READ.matcher(line);
            Matcher call = CALL.matcher(line);
            if (read.find()) {
                Due.is(line, Due.read(x, read.group(1)), Long.parseLong(read.group(2)));
                calls++;
            } else if (call.find()) {
                Due.is(line, answer(x, call.group(1), call.group(2)), Long.parseLong(call.group(3)));
                calls++;
            } else {
                Due.isTrue("a call whose answer stands behind it: " + line, !line.matches("(x\\.|read\\().*"));
            }
        }
        Due.isTrue("calls on the page: " + calls, calls >= 20);
        for (Method m : LargerWithin.class.getDeclaredMethods()) {
            boolean isFace = Modifier.isPublic(m.getModifiers());
            Due.isTrue("named: " + m.getName(), !isFace || page.contains("`" + m.getName() + "`"));
        }
        Due.end("ReadmeTest");
    }

    private static long answer(LargerWithin x, String name, String told) throws Exception {
        String[] words = told.isEmpty() ? new String[0] : told.split(",\\s*");
        for (Method m : LargerWithin.class.getDeclaredMethods()) {
            if (!m.getName().equals(name) || m.getParameterCount() != words.length) continue;
            Object[] given = new Object[words.length];
            for (int k = 0; k < words.length; k++) given[k] = value(words[k], m.getParameterTypes()[k]);
            return ((Number) m.invoke(x, given)).longValue();
        }
        throw new IllegalStateException("no call " + name);
    }

    private static Object value(String word, Class<?> type) {
        if (type == boolean.class) return Boolean.valueOf(word);
        if (type == long.class) return Long.decode(word);
        return Integer.decode(word);
    }
}
