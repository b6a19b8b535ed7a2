import java.io.IOException;
import java.nio.file.Files;
import java.nio.file.Path;
import java.util.Map;
import java.util.regex.Matcher;
import java.util.regex.Pattern;

/** The examples of README.md: each call answers the number, or the constant, that its comment begins with. */
public final class ReadmeTest {
    private static final Due due = new Due("ReadmeTest");
    private static final Pattern CALL = Pattern.compile("town\\.(\\w+)\\((.*)\\); +// (-?\\d+|[A-Z]+).*");
    private static final Map<String, Integer> CONSTANTS = Map.of("UNKNOWN", PursesShare.UNKNOWN,
        "OUTSIDE", PursesShare.OUTSIDE, "STATE", PursesShare.STATE, "FULL", PursesShare.FULL, "NONE", PursesShare.NONE);

    public static void main(String[] args) throws IOException {
        Calls town = null;
        int objects = 0;
        for (String line : Files.readAllLines(Path.of("README.md"))) {
            if (line.equals("PursesShare town = new PursesShare();")) {
                town = new Calls(new PursesShare());
                objects++;
            } else if (line.startsWith("town.")) {
                look(town, line);
            }
        }
        due.is("examples", objects, 2);
        due.end();
    }

    private static void look(Calls town, String line) {
        Matcher call = CALL.matcher(line);
        due.holds("a call with its answer: " + line, call.matches());
        if (call.matches()) due.is(line, town.call(call.group(1), values(call)), answer(call.group(3)));
    }

    private static Object[] values(Matcher call) {
        if (call.group(2).isEmpty()) return new Object[0];
        String[] told = call.group(2).split(", ");
        Object[] values = new Object[told.length];
        for (int i = 0; i < told.length; i++) values[i] = value(told[i]);
        return values;
    }

    private static Object value(String told) {
        if (told.equals("true") || told.equals("false")) return Boolean.valueOf(told);
        if (told.endsWith("L")) return Long.decode(told.substring(0, told.length() - 1));
        return Integer.decode(told);
    }

    private static long answer(String told) {
        return CONSTANTS.containsKey(told) ? CONSTANTS.get(told) : Integer.parseInt(told);
    }
}
