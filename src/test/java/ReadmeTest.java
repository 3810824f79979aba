import java.io.IOException;
import java.lang.reflect.Method;
import java.lang.reflect.Modifier;
import java.nio.file.Files;
import java.nio.file.Path;
import java.util.Set;
import java.util.TreeSet;
import java.util.regex.Matcher;
import java.util.regex.Pattern;

/** The calls that README.md shows, one behind the other on one object, answer as it says. */
public final class ReadmeTest {
    private static final Check CHECK = new Check("ReadmeTest");
    private static final Pattern SHOWN =
        Pattern.compile("(?m)^bench\\.(\\w+)\\(([-0-9, ]*)\\); +// (-?\\d+)(?::.*)?$");
    private static final Pattern ANY_CALL = Pattern.compile("(?m)^bench\\.");

    private final DuneBench bench = new DuneBench();
    private final Set<String> shown = new TreeSet<>();

    public static void main(String[] args) throws IOException, ReflectiveOperationException {
        Path root = Path.of(args.length > 0 ? args[0] : ".");
        new ReadmeTest().runAll(Files.readString(root.resolve("README.md")));
        CHECK.end();
    }

    private void runAll(String readme) throws ReflectiveOperationException {
        long understood = 0;
        for (Matcher call = SHOWN.matcher(readme); call.find(); understood++) {
            shown.add(call.group(1));
            int answer = answerOf(call.group(1), call.group(2));
            CHECK.due(call.group(1) + "(" + call.group(2) + ")", answer, Long.parseLong(call.group(3)));
        }
        CHECK.due("lines with a call and its answer", understood, ANY_CALL.matcher(readme).results().count());
        for (Method method : DuneBench.class.getDeclaredMethods()) {
            if (Modifier.isPublic(method.getModifiers())) {
                CHECK.holds("README.md shows " + method.getName(), shown.contains(method.getName()));
            }
        }
    }

    private int answerOf(String name, String list) throws ReflectiveOperationException {
        String[] texts = list.isEmpty() ? new String[0] : list.split(", *");
        Class<?>[] types = new Class<?>[texts.length];
        Object[] numbers = new Object[texts.length];
        for (int i = 0; i < texts.length; i++) {
            types[i] = int.class;
            numbers[i] = Integer.valueOf(texts[i]);
        }
        return (Integer) DuneBench.class.getMethod(name, types).invoke(bench, numbers);
    }
}
