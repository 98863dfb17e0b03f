import java.lang.reflect.Field;
import java.lang.reflect.Method;
import java.lang.reflect.Modifier;
import java.nio.file.Files;
import java.nio.file.Path;
import java.util.regex.Matcher;
import java.util.regex.Pattern;

/** README.md tells the truth: its example is run as it stands there, and it names every call and every refusal. */
public final class ReadmeTest extends Asking {
    private static final Pattern EXAMPLE = Pattern.compile("(?m)^x\\.(\\w+)\\(([^)]*)\\); *// (-?\\d+):");
    private static final int LEAST_EXAMPLES = 16;

    private static Object argument(String text, Class<?> type) {
        if (type == long.class) return Long.decode(text.replace("L", ""));
        if (type == boolean.class) return Boolean.valueOf(text);
        return Integer.decode(text);
    }

    private static Method called(String name) {
        for (Method m : NineBridges.class.getMethods()) if (m.getName().equals(name)) return m;
        throw new IllegalStateException("no call " + name);
    }

    private static long answer(NineBridges x, String name, String told) throws Exception {
        Method m = called(name);
        String[] texts = told.isEmpty() ? new String[0] : told.split(", *");
        Object[] arguments = new Object[texts.length];
        for (int i = 0; i < texts.length; i++) arguments[i] = argument(texts[i], m.getParameterTypes()[i]);
        return ((Number) m.invoke(x, arguments)).longValue();
    }

    private static void example(String readme) throws Exception {
        NineBridges x = new NineBridges();
        Matcher lines = EXAMPLE.matcher(readme);
        int found = 0;
        while (lines.find()) {
            due(lines.group(), answer(x, lines.group(1), lines.group(2)), Long.parseLong(lines.group(3)));
            found++;
        }
        due("the example has its lines", found >= LEAST_EXAMPLES ? 1 : 0, 1);
    }

    private static void names(String readme) throws Exception {
        for (Method m : NineBridges.class.getDeclaredMethods()) {
            if (Modifier.isPublic(m.getModifiers())) due(m.getName() + " is told", readme.contains("`" + m.getName() + "(") ? 1 : 0, 1);
        }
        for (Field f : NineBridges.class.getFields()) {
            String row = "| `" + f.getName() + "` | " + f.getInt(null) + " |";
            due(row, readme.contains(row) ? 1 : 0, 1);
        }
        due("the command that runs all tests", readme.contains("`.ci/run`") ? 1 : 0, 1);
    }

    public static void main(String[] args) throws Exception {
        String readme = Files.readString(Path.of("README.md"));
        example(readme);
        names(readme);
        finish();
    }
}
