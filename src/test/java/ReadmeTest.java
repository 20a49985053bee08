import java.lang.reflect.InvocationTargetException;
import java.lang.reflect.Method;
import java.lang.reflect.Modifier;
import java.nio.charset.StandardCharsets;
import java.nio.file.Files;
import java.nio.file.Path;
import java.util.regex.Matcher;
import java.util.regex.Pattern;

/** README.md says how to use the class: its run of calls must answer as it says, and it must name every call. */
public final class ReadmeTest {
    private static final Due DUE = new Due();
    private static final Pattern CALL = Pattern.compile("x\\.(\\w+)\\(([^)]*)\\);\\s*// (true|false|-?\\d+)\\b.*");

    public static void main(String[] args) throws Exception {
        String page = Files.readString(Path.of("README.md"), StandardCharsets.US_ASCII);
        int from = page.indexOf("```java\n") + 8;
        String[] lines = page.substring(from, page.indexOf("```", from)).split("\n");
        DUE.is("the run begins with a new object", lines[0].equals("StrongMen x = new StrongMen();"), true);
        StrongMen x = new StrongMen();
        for (int k = 1; k < lines.length; k++) {
            if (!lines[k].isEmpty()) {
                answers(x, lines[k]);
            }
        }
        for (Method method : StrongMen.class.getDeclaredMethods()) {
            if (Modifier.isPublic(method.getModifiers())) {
                DUE.is("README.md names " + method.getName(), page.contains("`" + method.getName() + "`"), true);
            }
        }
        DUE.end("ReadmeTest");
    }

    private static void answers(StrongMen x, String line) throws IllegalAccessException, InvocationTargetException {
        Matcher call = CALL.matcher(line);
        DUE.is("README.md: a call and its answer: " + line, call.matches(), true);
        if (!call.matches()) {
            return;
        }
        String[] words = call.group(2).isEmpty() ? new String[0] : call.group(2).split(", ");
        Method method = named(call.group(1), words.length);
        DUE.is("README.md: there is such a call: " + line, method != null, true);
        if (method == null) {
            return;
        }
        Object[] values = new Object[words.length];
        for (int k = 0; k < words.length; k++) {
            boolean isFlag = method.getParameterTypes()[k] == boolean.class;
            values[k] = isFlag ? (Object) Boolean.valueOf(words[k]) : (Object) Integer.decode(words[k]);
        }
        String got = String.valueOf(method.invoke(x, values));
        DUE.is("README.md: " + line + " (answered " + got + ")", got.equals(call.group(3)), true);
    }

    private static Method named(String name, int parameters) {
        for (Method method : StrongMen.class.getDeclaredMethods()) {
            boolean isPublic = Modifier.isPublic(method.getModifiers());
            if (isPublic && method.getName().equals(name) && method.getParameterCount() == parameters) {
                return method;
            }
        }
        return null;
    }
}
