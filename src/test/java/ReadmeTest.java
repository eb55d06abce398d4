import java.lang.reflect.Method;
import java.nio.file.Files;
import java.nio.file.Path;
import java.util.regex.Matcher;
import java.util.regex.Pattern;

/** Makes the calls of README.md on one object, in their order: each has to give the answer that stands behind it. */
public final class ReadmeTest extends Checks {
    private static final Pattern CALL = Pattern.compile("(?m)^bags\\.(\\w+)\\((.*?)\\);\\s*// (-?\\d+):");

    public static void main(String[] arguments) throws ReflectiveOperationException, java.io.IOException {
        String readme = Files.readString(Path.of("README.md"));
        BagCounts bags = new BagCounts();
        Matcher call = CALL.matcher(readme);
        int calls = 0;
        while (call.find()) {
            due(call.group(), make(bags, call.group(1), call.group(2)), Long.parseLong(call.group(3)));
            calls++;
        }
        due("calls in README.md that have an answer", calls, Pattern.compile("(?m)^bags\\.").matcher(readme).results().count());
        due("README.md has calls", Math.min(calls, 1), 1);
        for (Method method : BagCounts.class.getDeclaredMethods()) {
            if (java.lang.reflect.Modifier.isPublic(method.getModifiers())) {
                due("README.md names " + method.getName(), readme.contains("`" + method.getName() + "`") ? 1 : 0, 1);
            }
        }
        finish("ReadmeTest");
    }

    private static int make(BagCounts bags, String name, String given) throws ReflectiveOperationException {
        for (Method method : BagCounts.class.getMethods()) {
            if (method.getName().equals(name)) {
                String[] texts = given.isEmpty() ? new String[0] : given.split(", ");
                Object[] values = new Object[texts.length];
                for (int i = 0; i < texts.length; i++) {
                    long value = valueOf(texts[i]);
                    values[i] = method.getParameterTypes()[i] == long.class ? (Object) value : (Object) (int) value;
                }
                return (Integer) method.invoke(bags, values);
            }
        }
        throw new NoSuchMethodException(name);
    }

    private static long valueOf(String text) throws ReflectiveOperationException {
        return text.startsWith("BagCounts.") ? BagCounts.class.getField(text.substring(10)).getInt(null)
                : Long.decode(text.replace("L", ""));
    }
}
