import java.io.IOException;
import java.nio.file.Files;
import java.nio.file.Path;
import java.util.regex.Matcher;
import java.util.regex.Pattern;

/** The session that README.md tells: each call answers what stands behind it there; and each call is named there. */
public final class ReadmeTest {
    private static final Due due = new Due("ReadmeTest");
    private static final Pattern CALL = Pattern.compile("x\\.(\\w+\\(.*?\\)); *// (true|false|-?\\d+)\\b.*");

    public static void main(String[] args) throws IOException {
        String readme = Files.readString(Path.of("README.md"));
        session(readme);
        for (java.lang.reflect.Method m : HalvingMender.class.getDeclaredMethods()) {
            if (java.lang.reflect.Modifier.isPublic(m.getModifiers())) {
                due.is("README.md names " + m.getName(), readme.contains("`" + m.getName() + "`"), true);
            }
        }
        due.end();
    }

    private static void session(String readme) {
        HalvingMender x = new HalvingMender();
        int from = readme.indexOf("```java") + 7;
        for (String line : readme.substring(from, readme.indexOf("```", from)).split("\n")) {
            if (!line.startsWith("x.")) {
                continue;
            }
            Matcher m = CALL.matcher(line);
            due.is("README.md tells an answer: " + line, m.matches(), true);
            if (m.matches()) {
                due.is(m.group(1), Calls.ask(x, m.group(1)), answer(m.group(2)));
            }
        }
    }

    private static long answer(String word) {
        return word.equals("true") ? 1 : word.equals("false") ? 0 : Long.parseLong(word);
    }
}
