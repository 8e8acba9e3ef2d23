import java.lang.reflect.Method;
import java.lang.reflect.Modifier;
import java.nio.charset.StandardCharsets;
import java.nio.file.Files;
import java.nio.file.Path;
import java.util.regex.Matcher;
import java.util.regex.Pattern;

/** README.md tells how to use the class: its calls answer as it says, and it names every call of the face. */
public final class ReadmeTest {
    private static final Pattern CALL = Pattern.compile("x\\.(\\w+)\\(([-0-9, ]*)\\);\\s+// (-?\\d+)[:.].*");
    private static final Pattern FED = Pattern.compile("for \\(char letter : \"([^\"]*)\"\\.toCharArray\\(\\)\\) x\\.feed\\(letter\\);");
    private static final String MADE = "ThreesAtTable x = new ThreesAtTable();";

    public static void main(String[] args) throws Exception {
        String page = Files.readString(Path.of("README.md"), StandardCharsets.UTF_8);
        makeCalls(page);
        nameCalls(page);
        Checks.end();
    }

    private static void makeCalls(String page) throws Exception {
        int begin = page.indexOf("```java\n");
        int end = page.indexOf("\n```\n", begin);
        Checks.due("README.md has its calls", begin >= 0 && end > begin ? 1 : 0, 1);
        ThreesAtTable x = new ThreesAtTable();
        int calls = 0;
        for (String line : page.substring(begin + 8, end).split("\n")) {
            Matcher call = CALL.matcher(line);
            Matcher fed = FED.matcher(line);
            if (call.matches()) {
                Checks.due(line, answer(x, call.group(1), call.group(2)), Long.parseLong(call.group(3)));
                calls++;
            } else if (fed.matches()) {
                for (char letter : fed.group(1).toCharArray()) x.feed(letter);
            } else {
                Checks.due("a line that is no call: " + line, line.isBlank() || line.startsWith(MADE) ? 1 : 0, 1);
            }
        }
        Checks.due("there are calls", calls > 0 ? 1 : 0, 1);
    }

    private static long answer(ThreesAtTable x, String name, String numbers) throws Exception {
        String[] told = numbers.isBlank() ? new String[0] : numbers.split(",");
        Object[] given = new Object[told.length];
        Class<?>[] types = new Class<?>[told.length];
        for (int at = 0; at < told.length; at++) {
            given[at] = Integer.parseInt(told[at].trim());
            types[at] = int.class;
        }
        return ((Number) ThreesAtTable.class.getMethod(name, types).invoke(x, given)).longValue();
    }

    private static void nameCalls(String page) {
        for (Method call : ThreesAtTable.class.getDeclaredMethods()) {
            if (!Modifier.isPublic(call.getModifiers())) continue;
            Checks.due("README.md names " + call.getName(), page.contains("`" + call.getName() + "`") ? 1 : 0, 1);
        }
    }
}
