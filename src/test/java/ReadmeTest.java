import java.lang.reflect.Method;
import java.nio.file.Files;
import java.nio.file.Path;
import java.util.Arrays;
import java.util.regex.Matcher;
import java.util.regex.Pattern;

/** The example in README.md: each comment there begins with the answer to its call. */
public final class ReadmeTest {
    private static final Pattern MADE = Pattern.compile(".*code = new RankMetricCode\\((\\d+)\\);.*");
    private static final Pattern CALLED = Pattern.compile("code\\.(\\w+)\\((.*)\\); *// (true|false|-?\\d+)\\b.*");

    private static RankMetricCode code;

    public static void main(String[] args) throws Exception {
        boolean inExample = false;
        for (String line : Files.readAllLines(Path.of("README.md"))) {
            if (line.startsWith("```")) {
                inExample = line.equals("```java");
            } else if (inExample && !line.isEmpty()) {
                oneLine(line);
            }
        }
        Check.end();
    }

    private static void oneLine(String line) throws Exception {
        Matcher made = MADE.matcher(line);
        Matcher called = CALLED.matcher(line);
        if (made.matches()) {
            code = new RankMetricCode(Integer.parseInt(made.group(1)));
        } else if (called.matches()) {
            String got = answer(called.group(1), called.group(2));
            Check.due(line + " (answered " + got + ")", got.equals(called.group(3)), true);
        } else {
            Check.due("the test can read: " + line, false, true);
        }
    }

    private static String answer(String name, String list) throws Exception {
        String[] words = list.isEmpty() ? new String[0] : list.split(", ");
        Class<?>[] types = new Class<?>[words.length];
        Arrays.fill(types, int.class);
        Method method = RankMetricCode.class.getMethod(name, types);
        Object[] values = Arrays.stream(words).map(Integer::valueOf).toArray();
        return String.valueOf(method.invoke(code, values));
    }
}
