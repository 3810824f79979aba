import java.io.IOException;
import java.lang.reflect.Constructor;
import java.lang.reflect.Field;
import java.lang.reflect.Method;
import java.lang.reflect.Modifier;
import java.nio.file.Files;
import java.nio.file.Path;
import java.util.Arrays;
import java.util.Set;
import java.util.TreeSet;
import java.util.regex.Pattern;

/** The public face is the document's, and the source keeps to what LANGUAGE.md says plainly. */
public final class LanguageTest {
    private static final Check CHECK = new Check("LanguageTest");

    private static final String[] FACE = {
        "coast 1", "set 3", "of 2", "wind 1", "storm 1", "end 0", "nourish 1", "event 3", "calm 1", "size 1",
        "crest 4", "floods 4", "plan 2", "fences 1", "most 0", "read 2", "take 0", "level 2", "volume 1",
        "doubt 1", "many 1", "keep 0", "back 0",
    };

    private static final String[] FORBIDDEN = {
        "\\bthrow\\b", "\\bthrows\\b", "\\btry\\b", "\\bcatch\\b", "\\bsynchronized\\b", "\\bassert\\b",
        "\\bimport\\b", "\\bpackage\\b", "->", "::", "Exact\\b", "\\bstatic\\s*\\{", "\\bSystem\\.(?!arraycopy)",
        "\\bdouble\\b", "\\bfloat\\b", "\\bObject\\b", "\\bvar\\b",
    };

    public static void main(String[] args) throws IOException {
        constants();
        members();
        nestedClasses();
        Path root = Path.of(args.length > 0 ? args[0] : ".");
        String text = Files.readString(root.resolve("src/main/java/DuneBench.java"));
        signs(text);
        methods(new Source(text));
        CHECK.end();
    }

    private static void constants() {
        CHECK.due("NUMBER", DuneBench.NUMBER, -1);
        CHECK.due("FULL", DuneBench.FULL, -2);
        CHECK.due("NONE", DuneBench.NONE, -3);
    }

    private static void members() {
        Set<String> face = new TreeSet<>();
        Set<String> hidden = new TreeSet<>();
        for (Method method : DuneBench.class.getDeclaredMethods()) {
            if (Modifier.isPrivate(method.getModifiers())) {
                hidden.add(method.getName());
                continue;
            }
            CHECK.holds(method.getName() + " is public and answers int",
                Modifier.isPublic(method.getModifiers()) && method.getReturnType() == int.class);
            face.add(method.getName() + " " + method.getParameterCount());
        }
        CHECK.holds("the face's methods " + face, face.equals(new TreeSet<>(Arrays.asList(FACE))));
        for (String call : FACE) {
            CHECK.holds("no private method is named as " + call, !hidden.contains(call.split(" ")[0]));
        }
        Set<String> constants = new TreeSet<>();
        for (Field field : DuneBench.class.getDeclaredFields()) {
            if (!Modifier.isPrivate(field.getModifiers())) {
                constants.add(field.getName());
            }
            CHECK.holds("static is final: " + field.getName(),
                !Modifier.isStatic(field.getModifiers()) || Modifier.isFinal(field.getModifiers()));
        }
        CHECK.holds("the constants", constants.equals(Set.of("NUMBER", "FULL", "NONE")));
        Constructor<?>[] made = DuneBench.class.getDeclaredConstructors();
        CHECK.holds("one public constructor", made.length == 1 && Modifier.isPublic(made[0].getModifiers()));
        int modifiers = DuneBench.class.getModifiers();
        CHECK.holds("public and final", Modifier.isPublic(modifiers) && Modifier.isFinal(modifiers));
    }

    private static void nestedClasses() {
        CHECK.holds("at most twelve classes", DuneBench.class.getDeclaredClasses().length < 12);
        fieldsOf(DuneBench.class);
        for (Class<?> nested : DuneBench.class.getDeclaredClasses()) {
            CHECK.holds(nested.getName() + " is static and not public",
                Modifier.isStatic(nested.getModifiers()) && !Modifier.isPublic(nested.getModifiers()));
            for (Method method : nested.getDeclaredMethods()) {
                CHECK.holds("parameters of " + method.getName(), method.getParameterCount() <= 7);
            }
            fieldsOf(nested);
        }
    }

    private static void fieldsOf(Class<?> owner) {
        long own = Arrays.stream(owner.getDeclaredFields()).filter(f -> !Modifier.isStatic(f.getModifiers())).count();
        CHECK.holds(owner.getName() + " has at most twenty fields", own <= 20);
    }

    private static void signs(String text) {
        String code = text.replaceAll("(?s)/\\*.*?\\*/", "").replaceAll("//[^\n]*", "");
        for (String word : FORBIDDEN) {
            CHECK.holds("the source has no " + word, !Pattern.compile(word).matcher(code).find());
        }
        CHECK.holds("the source has signs 1 to 127 alone", text.chars().allMatch(c -> c > 0 && c < 128));
    }

    private static void methods(Source source) {
        CHECK.holds("no two methods have a name, " + source.namedTwice, source.namedTwice.isEmpty());
        for (String method : source.bodies.keySet()) {
            String body = source.bodies.get(method);
            CHECK.holds(method + " is short", body.split("\n").length <= 60);
            CHECK.holds(method + " is no more than eight deep", source.depthOf(method, 0) <= 8);
            // All calls of a run live in one room, so they use the rows that the constructors made.
            CHECK.holds(method + " makes nothing, or is a constructor",
                method.startsWith("new ") || !body.contains("new "));
        }
        for (String call : FACE) {
            CHECK.holds("the source was read: " + call, source.bodies.containsKey(call.split(" ")[0]));
        }
    }
}
