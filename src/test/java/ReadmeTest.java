import java.io.IOException;
import java.lang.reflect.Method;
import java.lang.reflect.Modifier;
import java.nio.file.Files;
import java.nio.file.Path;
import java.util.regex.Matcher;
import java.util.regex.Pattern;

/** Each call of README.md's examples answers the number that stands behind it, and each call is named. */
public final class ReadmeTest {
    private static final Due DUE = new Due();
    private static final Pattern CALL = Pattern.compile("fox\\.(\\w+)\\(([^)]*)\\);\\s*// (-?\\d+).*");

    public static void main(String[] args) throws IOException, ReflectiveOperationException {
        String readme = Files.readString(Path.of("README.md"));
        examples(readme);
        for (Method method : FoxReply.class.getDeclaredMethods()) {
            if (Modifier.isPublic(method.getModifiers())) {
                boolean isNamed = Pattern.compile("\\| `" + method.getName() + "\\(").matcher(readme).find();
                DUE.due(method.getName() + " is named", isNamed ? 1 : 0, 1);
            }
        }
        DUE.close();
    }

    private static void examples(String readme) throws ReflectiveOperationException {
        FoxReply fox = null;
        int calls = 0;
        for (String line : readme.split("\n")) {
            Matcher matcher = CALL.matcher(line);
            if (line.equals("FoxReply fox = new FoxReply();")) {
                fox = new FoxReply();
            } else if (matcher.matches()) {
                DUE.due(line, call(fox, matcher.group(1), matcher.group(2)), Integer.parseInt(matcher.group(3)));
                calls++;
            } else {
                DUE.due("read: " + line, line.startsWith("fox.") ? 1 : 0, 0);
            }
        }
        DUE.due("examples stand there", calls > 0 ? 1 : 0, 1);
    }

    private static int call(FoxReply fox, String name, String numbers) throws ReflectiveOperationException {
        String[] texts = numbers.isEmpty() ? new String[0] : numbers.split(",\\s*");
        Class<?>[] types = new Class<?>[texts.length];
        Object[] values = new Object[texts.length];
        for (int i = 0; i < texts.length; i++) {
            types[i] = int.class;
            values[i] = Integer.decode(texts[i]);
        }
        return (Integer) FoxReply.class.getMethod(name, types).invoke(fox, values);
    }
}
