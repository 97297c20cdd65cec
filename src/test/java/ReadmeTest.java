import java.io.IOException;
import java.lang.reflect.Method;
import java.lang.reflect.Modifier;
import java.nio.file.Files;
import java.nio.file.Path;
import java.util.regex.Matcher;
import java.util.regex.Pattern;

/** What README.md shows: the answers of its example, and that it tells of each call, each test and each finding. */
final class ReadmeTest {
    private static final String[] FINDINGS = {"BEYOND", "FULL", "KIND", "NONE", "STATE", "MISSING", "SIZE"};

    public static void main(String[] args) throws Exception {
        String readme = Files.readString(Path.of("README.md"));
        example(readme);
        calls(readme);
        findings(readme);
        tests(readme);
        Check.end();
    }

    /** Each line of the example is a call with its answer behind it. */
    private static void example(String readme) throws Exception {
        Pattern line = Pattern.compile("(?m)^x\\.(\\w+)\\(([^)]*)\\); +// (-?\\d+)");
        Matcher call = line.matcher(readme);
        FortyReports x = new FortyReports();
        int calls = 0;
        while (call.find()) {
            calls++;
            Check.due("README: " + call.group(), answer(x, call.group(1), call.group(2)), Long.parseLong(call.group(3)));
        }
        if (calls == 0 || calls != readme.split("(?m)^x\\.", -1).length - 1) {
            Check.fail("README: only " + calls + " calls of the example have an answer");
        }
    }

    private static long answer(FortyReports x, String name, String told) throws Exception {
        String[] values = told.isEmpty() ? new String[0] : told.split(", ");
        for (Method method : FortyReports.class.getMethods()) {
            if (method.getName().equals(name) && method.getParameterCount() == values.length) {
                Object[] row = new Object[values.length];
                for (int i = 0; i < row.length; i++) {
                    row[i] = value(values[i], method.getParameterTypes()[i]);
                }
                return ((Number) method.invoke(x, row)).longValue();
            }
        }
        Check.fail("README: no such call: " + name + "(" + told + ")");
        return 0;
    }

    private static Object value(String told, Class<?> type) {
        if (type == boolean.class) {
            return told.equals("true");
        }
        if (type == long.class) {
            return Long.decode(told);
        }
        return Integer.decode(told);
    }

    private static void calls(String readme) {
        for (Method method : FortyReports.class.getDeclaredMethods()) {
            if (Modifier.isPublic(method.getModifiers()) && !readme.contains("`" + method.getName() + "`")) {
                Check.fail("README: nothing of " + method.getName());
            }
        }
    }

    private static void findings(String readme) {
        for (int i = 0; i < FINDINGS.length; i++) {
            if (!readme.contains("| " + (-1000000001 - i) + " | " + FINDINGS[i] + " |")) {
                Check.fail("README: nothing of " + FINDINGS[i]);
            }
        }
        if (!readme.contains("512 calls")) {
            Check.fail("README: for how many calls?");
        }
    }

    private static void tests(String readme) throws IOException {
        try (var files = Files.list(Path.of("src/test/java"))) {
            for (Path file : (Iterable<Path>) files::iterator) {
                String name = file.getFileName().toString().replace(".java", "");
                if (name.endsWith("Test") && !readme.contains(name)) {
                    Check.fail("README: nothing of " + name);
                }
            }
        }
    }
}
