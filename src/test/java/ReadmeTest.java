import java.io.IOException;
import java.lang.reflect.InvocationTargetException;
import java.lang.reflect.Method;
import java.lang.reflect.Modifier;
import java.nio.file.Files;
import java.nio.file.Path;
import java.util.regex.Matcher;
import java.util.regex.Pattern;

/** README.md tells a CITY, calls and their answers: they must be so. */
public final class ReadmeTest {
    private static final Pattern CITY = Pattern.compile("```city\\n(.*?)```", Pattern.DOTALL);
    private static final Pattern CALL = Pattern.compile(
            "(?m)^x\\.(\\w+)\\(([^)]*)\\); +// (-?\\d+|true|false|NONE|GAP)\\b");

    private ReadmeTest() {
    }

    public static void main(String[] args) throws IOException, ReflectiveOperationException {
        String page = Files.readString(Path.of("README.md"));
        BetterThieves x = begin(page);
        int calls = 0;
        Matcher call = CALL.matcher(page);
        while (call.find()) {
            Due.is("README.md: " + call.group(), answer(x, call.group(1), call.group(2)), number(call.group(3)));
            calls++;
        }
        Due.is("README.md: lines that begin with x.", calls, linesThatCall(page));
        Due.is("README.md has an example", calls > 0, true);
        everyCallIsNamed(page);
        Due.finish();
    }

    private static BetterThieves begin(String page) {
        Matcher text = CITY.matcher(page);
        boolean found = text.find();
        Due.is("README.md tells a CITY", found, true);
        return found ? Due.city(text.group(1)) : new BetterThieves();
    }

    private static long linesThatCall(String page) {
        return page.lines().filter(line -> line.startsWith("x.")).count();
    }

    private static long answer(BetterThieves x, String name, String list) throws ReflectiveOperationException {
        String[] words = list.isEmpty() ? new String[0] : list.split(", ");
        Object[] values = new Object[words.length];
        for (int i = 0; i < words.length; i++) {
            boolean isBoolean = words[i].equals("true") || words[i].equals("false");
            values[i] = isBoolean ? (Object) Boolean.valueOf(words[i]) : (Object) Integer.valueOf(words[i]);
        }
        for (Method method : BetterThieves.class.getMethods()) {
            if (method.getName().equals(name) && method.getParameterCount() == values.length) {
                return number(String.valueOf(invoke(method, x, values)));
            }
        }
        throw new NoSuchMethodException(name);
    }

    private static Object invoke(Method method, BetterThieves x, Object[] values) throws ReflectiveOperationException {
        try {
            return method.invoke(x, values);
        } catch (InvocationTargetException e) {
            return BetterThieves.GAP - 1;
        }
    }

    private static long number(String word) {
        switch (word) {
            case "true": return 1;
            case "false": return 0;
            case "NONE": return BetterThieves.NONE;
            case "GAP": return BetterThieves.GAP;
            default: return Long.parseLong(word);
        }
    }

    private static void everyCallIsNamed(String page) {
        for (Method method : BetterThieves.class.getDeclaredMethods()) {
            if (Modifier.isPublic(method.getModifiers())) {
                Due.is("README.md names " + method.getName(), page.contains(method.getName() + "("), true);
            }
        }
    }
}
