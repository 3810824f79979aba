import java.lang.reflect.Method;
import java.lang.reflect.Modifier;
import java.util.Arrays;
import java.util.Comparator;
import java.util.LinkedHashMap;
import java.util.Map;
import java.util.TreeSet;
import java.util.function.Supplier;
import java.util.function.ToIntFunction;
import java.util.regex.Matcher;
import java.util.regex.Pattern;

/**
 * Tests of boundary cases, a method for each sentence of the document that names one. Methods are
 * named by their term or promise (term1.., promise12..), and all of a class are run.
 */
final class Edges {
    private static final Pattern NAME = Pattern.compile("(?:term|promise|refusal)(\\d+)[A-Z]\\w*");

    /** A call with one number, of which some may be and others not. */
    interface Numbered {
        int on(DuneBench x, int v);
    }

    private final String tests;
    private final Check check;
    private final Map<String, Supplier<DuneBench>> benches = new LinkedHashMap<>();
    private final Map<String, String> untouched = new LinkedHashMap<>();
    private String sentence;

    Edges(String tests) {
        this.tests = tests;
        check = new Check(tests);
        benches.put("a new object", DuneBench::new);
        benches.put("three cells", () -> Benches.keeping(3));
        benches.put("five cells", () -> Benches.busy(5));
        benches.put("seven cells", () -> Benches.keeping(7));
    }

    /** Runs every test of a class; each number from first to last must have one. */
    void run(Class<?> owner, int first, int last) throws ReflectiveOperationException {
        Method[] methods = owner.getDeclaredMethods();
        Arrays.sort(methods, Comparator.comparing(Method::getName));
        TreeSet<Integer> numbers = new TreeSet<>();
        for (Method method : methods) {
            Matcher name = NAME.matcher(method.getName());
            if (Modifier.isStatic(method.getModifiers()) && name.matches()) {
                numbers.add(Integer.valueOf(name.group(1)));
                runOne(method);
            }
        }
        for (int number = first; number <= last; number++) {
            check.holds("there is a test numbered " + number, numbers.contains(number));
        }
        check.end();
    }

    private void runOne(Method method) throws ReflectiveOperationException {
        sentence = null;
        method.setAccessible(true);
        method.invoke(null);
        check.holds(method.getName() + " names its sentence", sentence != null);
    }

    /** What the document says, by its own words; a test begins with it. */
    void sentence(String words) {
        sentence = words;
    }

    void due(String call, int got, int want) {
        check.due("'" + sentence + "': " + call, got, want);
    }

    void holds(String what, boolean so) {
        check.holds("'" + sentence + "': " + what, so);
    }

    void cellIs(DuneBench x, int cell, int height, int grass, int fence, int kept) {
        int[] want = {height, grass, fence, kept};
        for (int what = 0; what < 4; what++) {
            due("of(" + cell + ", " + what + ")", x.of(cell, what), want[what]);
        }
    }

    void heightsAre(DuneBench x, int... heights) {
        due("many(0)", x.many(0), heights.length);
        for (int cell = 0; cell < heights.length; cell++) {
            due("of(" + cell + ", 0)", x.of(cell, 0), heights[cell]);
        }
    }

    void planIs(DuneBench x, int aim, int fences, int first, int second, int third) {
        int[] want = {first, second, third};
        due("fences(" + aim + ")", x.fences(aim), fences);
        for (int year = 0; year < 3; year++) {
            due("plan(" + aim + ", " + year + ")", x.plan(aim, year), want[year]);
        }
    }

    /** A call that is refused in every state: it answers so and changes nothing. */
    void refused(String call, int want, ToIntFunction<DuneBench> made) {
        for (String bench : benches.keySet()) {
            refusedOn(bench, benches.get(bench), call, want, made);
        }
    }

    /** A call that is refused on objects of one kind. */
    void refusedOn(String bench, Supplier<DuneBench> object, String call, int want, ToIntFunction<DuneBench> made) {
        DuneBench x = object.get();
        due(call + " on " + bench, made.applyAsInt(x), want);
        String as = untouched.computeIfAbsent(bench, b -> Benches.wholeOf(object.get()));
        holds(call + " on " + bench + " changes nothing", as.equals(Benches.wholeOf(x)));
    }

    /** A number may be least to greatest alone, in every state. */
    void numberWithin(String call, int least, int greatest, Numbered made) {
        numberWithin(call, least, greatest, DuneBench.NUMBER, made);
    }

    void numberWithin(String call, int least, int greatest, int refusal, Numbered made) {
        for (int v : new int[] {least, greatest}) {
            DuneBench x = new DuneBench();
            holds(call + " with " + v + " isn't refused", made.on(x, v) != refusal);
        }
        for (int v : new int[] {least - 1, greatest + 1, Integer.MIN_VALUE, Integer.MAX_VALUE}) {
            refused(call + " with " + v, refusal, x -> made.on(x, v));
        }
    }

    /** A cell may be least to the last one alone, on coasts of each length. */
    void cellWithin(String call, int least, int refusal, Numbered made) {
        for (int n = 3; n <= 7; n++) {
            int cells = n;
            String bench = "a coast of " + n;
            for (int cell = least; cell < n; cell++) {
                holds(call + " with cell " + cell + " on " + bench, made.on(Benches.keeping(n), cell) != refusal);
            }
            for (int cell : new int[] {least - 1, n, Integer.MIN_VALUE, Integer.MAX_VALUE}) {
                refusedOn(bench, () -> Benches.keeping(cells), call + " with cell " + cell, refusal,
                    x -> made.on(x, cell));
            }
        }
    }
}
