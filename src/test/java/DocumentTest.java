import java.io.IOException;
import java.lang.reflect.Field;
import java.lang.reflect.Method;
import java.lang.reflect.Modifier;
import java.nio.file.DirectoryStream;
import java.nio.file.Files;
import java.nio.file.Path;
import java.util.ArrayList;
import java.util.Arrays;
import java.util.List;
import java.util.Set;
import java.util.TreeSet;
import java.util.regex.Matcher;
import java.util.regex.Pattern;
import java.util.stream.Collectors;

/**
 * The document itself: its face is the class's, its promises are the ones that tests are numbered
 * by, and what tests quote stands in it. If the document changes, this tells which tests to read.
 */
public final class DocumentTest {
    private static final Check CHECK = new Check("DocumentTest");
    private static final Pattern FACE = Pattern.compile("(?s)```java\\s+public final class DuneBench \\{(.*?)\\}\\s+```");
    private static final Pattern PROMISE = Pattern.compile("(?m)^## Promise (\\d+): (.+)$");
    private static final Pattern QUOTE = Pattern.compile("\\bsentence\\(\"((?:[^\"\\\\]|\\\\.)*)\"\\)");
    private static final String[] PROMISES = {
        "A new object", "coast", "set", "of", "wind", "storm", "end", "nourish", "event", "calm", "size", "crest",
        "floods", "plan", "fences", "most", "read", "take", "level", "volume", "doubt", "many", "keep", "back",
    };

    public static void main(String[] args) throws IOException, IllegalAccessException {
        Path root = Path.of(args.length > 0 ? args[0] : ".");
        Path document = root.resolve("../shared/DOC.md");
        if (!Files.exists(document)) {
            System.out.println("DocumentTest: " + document + " isn't here, nothing to look at");
            return;
        }
        String text = Files.readString(document);
        face(text);
        promises(text);
        quotes(root.resolve("src/test/java"), text);
        CHECK.end();
    }

    private static void face(String text) throws IllegalAccessException {
        Matcher found = FACE.matcher(text);
        if (!found.find()) {
            CHECK.holds("the document has a face", false);
            return;
        }
        Set<String> told = new TreeSet<>();
        for (String line : found.group(1).split(";")) {
            String member = line.trim().replaceAll("(int) \\w+(?=[,)])", "$1");
            if (!member.isEmpty()) {
                told.add(member);
            }
        }
        Set<String> built = builtFace();
        CHECK.holds("the document's face " + told + " is the class's " + built, told.equals(built));
    }

    private static Set<String> builtFace() throws IllegalAccessException {
        Set<String> built = new TreeSet<>();
        for (Field field : DuneBench.class.getFields()) {
            built.add(Modifier.toString(field.getModifiers()) + " " + field.getType() + " " + field.getName()
                + " = " + field.getInt(null));
        }
        built.add("public DuneBench()");
        CHECK.holds("a constructor without numbers", DuneBench.class.getConstructors()[0].getParameterCount() == 0);
        for (Method method : DuneBench.class.getDeclaredMethods()) {
            if (Modifier.isPublic(method.getModifiers())) {
                String types = Arrays.stream(method.getParameterTypes()).map(Class::getName)
                    .collect(Collectors.joining(", "));
                built.add("public " + method.getReturnType() + " " + method.getName() + "(" + types + ")");
            }
        }
        return built;
    }

    private static void promises(String text) {
        List<String> told = new ArrayList<>();
        for (Matcher heading = PROMISE.matcher(text); heading.find();) {
            told.add(heading.group(2).trim());
            CHECK.due("the number of " + heading.group(2), Long.parseLong(heading.group(1)), told.size());
        }
        CHECK.holds("the promises are " + told, told.equals(Arrays.asList(PROMISES)));
    }

    private static void quotes(Path tests, String text) throws IOException {
        String words = plain(text);
        try (DirectoryStream<Path> files = Files.newDirectoryStream(tests, "*EdgesTest.java")) {
            for (Path file : files) {
                for (Matcher quote = QUOTE.matcher(Files.readString(file)); quote.find();) {
                    CHECK.holds(file.getFileName() + ": the document says '" + quote.group(1) + "'",
                        words.contains(plain(quote.group(1))));
                }
            }
        }
    }

    private static String plain(String text) {
        return text.replaceAll("\\s+", " ");
    }
}
