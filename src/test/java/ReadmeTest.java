import java.lang.reflect.Method;
import java.lang.reflect.Modifier;
import java.nio.file.Files;
import java.nio.file.Path;
import java.util.HashMap;
import java.util.Map;
import java.util.regex.Matcher;
import java.util.regex.Pattern;

/** Runs the lines of README.md's example: each call there answers the number that is told behind it. */
public final class ReadmeTest {
    private static final Pattern LAID = Pattern.compile("lay\\(x, \"([^\"]*)\"\\); +// .*");
    private static final Pattern CALL =
        Pattern.compile("(?:int|long) (\\w+) = x\\.(\\w+)\\(([^)]*)\\); +// (-?\\d+): .*");

    private final PencilStrikes x = new PencilStrikes();
    private final Map<String, Long> told = new HashMap<>();

    public static void main(String[] args) throws Exception {
        String readme = Files.readString(Path.of("README.md"));
        new ReadmeTest().run(readme);
        namesEveryCallAndTest(readme);
        Check.end();
    }

    private void run(String readme) throws Exception {
        int ran = 0;
        for (String line : readme.split("\n")) {
            Matcher laid = LAID.matcher(line);
            Matcher call = CALL.matcher(line);
            if (laid.matches()) {
                Check.lay(x, laid.group(1));
            } else if (call.matches()) {
                runCall(call);
                ran++;
            }
        }
        Check.due("calls in README.md's example", ran, 14);
    }

    private void runCall(Matcher call) throws Exception {
        Method method = methodOf(call.group(2));
        String[] given = call.group(3).split(", *");
        Object[] numbers = new Object[given.length];
        for (int i = 0; i < given.length; i++) {
            Long named = told.get(given[i]);
            numbers[i] = named != null ? named.intValue() : Integer.parseInt(given[i]);
        }
        long got = ((Number) method.invoke(x, numbers)).longValue();
        long want = Long.parseLong(call.group(4));
        Check.due("README.md: " + call.group(2) + "(" + call.group(3) + ")", got, want);
        told.put(call.group(1), got);
    }

    private static Method methodOf(String name) {
        for (Method method : PencilStrikes.class.getDeclaredMethods()) {
            if (method.getName().equals(name) && Modifier.isPublic(method.getModifiers())) {
                return method;
            }
        }
        throw new IllegalStateException("README.md names no such call: " + name);
    }

    private static void namesEveryCallAndTest(String readme) throws Exception {
        for (Method method : PencilStrikes.class.getDeclaredMethods()) {
            if (Modifier.isPublic(method.getModifiers())) {
                boolean named = Pattern.compile("\\b" + method.getName() + "\\b").matcher(readme).find();
                Check.due("README.md names " + method.getName(), named ? 1 : 0, 1);
            }
        }
        try (var files = Files.list(Path.of("src/test/java"))) {
            for (Path file : files.filter(f -> f.toString().endsWith("Test.java")).toList()) {
                String test = file.getFileName().toString().replace(".java", "");
                Check.due("README.md names " + test, readme.contains("| " + test + " |") ? 1 : 0, 1);
            }
        }
    }
}
