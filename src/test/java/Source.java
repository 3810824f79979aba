import java.util.LinkedHashMap;
import java.util.Map;
import java.util.TreeSet;
import java.util.regex.Matcher;
import java.util.regex.Pattern;

/** The methods and constructors of a source text, by the way its lines are indented. */
final class Source {
    private static final Pattern HEAD =
        Pattern.compile("^( {4}| {8})(?:(?:public|private|static|final) )*(?:[\\w\\[\\]]+ )?(\\w+)\\(.*\\) \\{$");
    private static final Pattern CALL = Pattern.compile("(?<!new )\\b(\\w+)\\(");

    /** Lines by "name", or "new Name" for a constructor. */
    final Map<String, String> bodies = new LinkedHashMap<>();
    final TreeSet<String> namedTwice = new TreeSet<>();

    Source(String text) {
        String name = null;
        String indent = "";
        StringBuilder body = new StringBuilder();
        for (String line : text.split("\n")) {
            Matcher head = HEAD.matcher(line);
            if (name == null && head.matches() && !line.contains(" class ")) {
                indent = head.group(1);
                name = Character.isUpperCase(head.group(2).charAt(0)) ? "new " + head.group(2) : head.group(2);
                body.setLength(0);
            } else if (name != null && line.equals(indent + "}")) {
                if (bodies.put(name, body.toString()) != null) {
                    namedTwice.add(name);
                }
                name = null;
            } else if (name != null) {
                body.append(line).append('\n');
            }
        }
    }

    /** How many calls stand open at once at most, the library's too; far too many if methods call one another. */
    int depthOf(String method, int above) {
        if (above > 100 || !bodies.containsKey(method)) {
            return 1;
        }
        int deepest = 0;
        for (Matcher call = CALL.matcher(bodies.get(method)); call.find();) {
            String name = call.group(1);
            if (!name.equals("if") && !name.equals("for") && !name.equals("switch")) {
                deepest = Math.max(deepest, depthOf(name, above + 1));
            }
        }
        return deepest + 1;
    }
}
