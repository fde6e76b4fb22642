import java.lang.reflect.Method;
import java.lang.reflect.Modifier;
import java.nio.file.Files;
import java.nio.file.Path;
import java.util.regex.Matcher;
import java.util.regex.Pattern;

/** README.md's example is run as it stands, and each call of the face has to stand in the README. */
public final class ReadmeTest {
    private static final Pattern CALL = Pattern.compile("x\\.(\\w+)\\(([-\\d, ]*)\\);\\s*// (-?\\d+).*");
    private static final Pattern FEED = Pattern.compile("for \\(char c : \"(.*)\".toCharArray\\(\\)\\) x.feed\\(c\\);");

    private static Method methodOf(String name) {
        for (Method method : EclipsesKept.class.getDeclaredMethods()) {
            if (Modifier.isPublic(method.getModifiers()) && method.getName().equals(name)) {
                return method;
            }
        }
        return null;
    }

    private static long answer(EclipsesKept x, String name, String arguments) throws Exception {
        Method method = methodOf(name);
        String[] told = arguments.isEmpty() ? new String[0] : arguments.split(", *");
        Object[] given = new Object[told.length];
        for (int k = 0; k < told.length; k++) {
            if (method.getParameterTypes()[k] == long.class) {
                given[k] = Long.parseLong(told[k]);
            } else {
                given[k] = Integer.parseInt(told[k]);
            }
        }
        return ((Number) method.invoke(x, given)).longValue();
    }

    private static void example(String[] lines) throws Exception {
        EclipsesKept x = new EclipsesKept();
        for (String line : lines) {
            Matcher call = CALL.matcher(line);
            Matcher feed = FEED.matcher(line);
            if (call.matches()) {
                Due.due(line, answer(x, call.group(1), call.group(2)), Long.parseLong(call.group(3)));
            } else if (feed.matches()) {
                Due.fed(x, feed.group(1));
            } else {
                boolean asksNothing = line.isEmpty() || line.startsWith("//") || line.startsWith("EclipsesKept x = ");
                Due.due("a line that this test can't run: " + line, asksNothing ? 0 : 1, 0);
            }
        }
    }

    private static void names(String readme) {
        for (Method method : EclipsesKept.class.getDeclaredMethods()) {
            if (Modifier.isPublic(method.getModifiers())) {
                String name = method.getName();
                Due.due("told of: " + name, readme.contains("`" + name + "`") ? 1 : 0, 1);
            }
        }
    }

    public static void main(String[] args) throws Exception {
        String readme = Files.readString(Path.of("README.md"));
        Due.begin("README.md");
        int from = readme.indexOf("```java\n") + "```java\n".length();
        example(readme.substring(from, readme.indexOf("```", from)).split("\n"));
        names(readme);
        Due.end("ReadmeTest");
    }
}
