/** A refused call answers as told, the first refusal named, and changes nothing. */
public final class RefusalTest {
    private static final Check CHECK = new Check("RefusalTest");
    private static final int[] FAR = {
        Integer.MIN_VALUE, Integer.MIN_VALUE + 1, -1000, -9, -3, -2, 100, 1000, Integer.MAX_VALUE,
    };

    public static void main(String[] args) {
        for (int n = 3; n <= 7; n++) {
            coastCalls(n);
            weatherCalls(n);
            surveyCalls(n);
        }
        backWithNothingKept();
        nearNumbers();
        CHECK.end();
    }

    private static void coastCalls(int n) {
        DuneBench x = Benches.busy(n);
        String before = Check.stateOf(x);
        for (int far : FAR) {
            number("coast", x.coast(far));
            number("set cell", x.set(far, 0, 1));
            number("set what", x.set(0, far, 1));
            number("set v", x.set(n - 1, 0, far));
            number("set v", x.set(n - 1, 1, far));
            number("set v", x.set(n - 1, 2, far));
            number("of cell", x.of(far, 0));
            number("of what", x.of(0, far));
            number("wind", x.wind(far));
            number("storm", x.storm(far));
            number("nourish", x.nourish(far));
            number("many", x.many(far));
        }
        unchanged("coast calls", x, before);
    }

    private static void weatherCalls(int n) {
        DuneBench x = Benches.busy(n);
        String before = Check.stateOf(x);
        for (int far : FAR) {
            number("event weather", x.event(far, 0, 1));
            number("event kind", x.event(0, far, 1));
            number("event v", x.event(0, 0, far));
            number("event v", x.event(0, 1, far));
            number("calm", x.calm(far));
            number("size", x.size(far));
            number("crest weather", x.crest(far, 0, 0, 0));
            number("crest third", x.crest(0, 0, 0, far));
            number("floods weather", x.floods(far, 0, 0, 0));
            number("floods first", x.floods(0, far, 0, 0));
            number("plan aim", x.plan(far, 0));
            number("plan year", x.plan(0, far));
            number("fences", x.fences(far));
        }
        CHECK.due("full", x.event(2, 0, 1), DuneBench.FULL);
        unchanged("weather calls", x, before);
    }

    private static void surveyCalls(int n) {
        DuneBench x = Benches.busy(n);
        String before = Check.stateOf(x);
        for (int far : FAR) {
            CHECK.due("read cell", x.read(far, 1), -9);
            CHECK.due("read v", x.read(0, far), -9);
            number("level cell", x.level(far, 0));
            number("level what", x.level(0, far));
            number("volume", x.volume(far));
            number("doubt", x.doubt(far));
        }
        unchanged("survey calls", x, before);
        x.keep();
        x.coast(n == 3 ? 4 : n - 1);
        before = Check.stateOf(x);
        CHECK.due("back", x.back(), DuneBench.NONE);
        unchanged("back", x, before);
    }

    private static void backWithNothingKept() {
        DuneBench x = Benches.busy(5);
        String before = Check.stateOf(x);
        CHECK.due("back", x.back(), DuneBench.NONE);
        unchanged("back with nothing kept", x, before);
    }

    /** Numbers one beside those that may be. */
    private static void nearNumbers() {
        for (int n = 3; n <= 7; n++) {
            DuneBench x = Benches.busy(n);
            String before = Check.stateOf(x);
            number("coast(2)", x.coast(2));
            number("coast(8)", x.coast(8));
            number("wind(0)", x.wind(0));
            number("wind(10)", x.wind(10));
            number("storm(0)", x.storm(0));
            number("storm(100)", x.storm(100));
            number("nourish(0)", x.nourish(0));
            number("nourish(100)", x.nourish(100));
            number("size(0)", x.size(0));
            number("size(21)", x.size(21));
            number("crest(0, n, ..)", x.crest(0, n, -1, -1));
            number("crest(0, .., n, ..)", x.crest(0, -1, n, -1));
            number("floods(0, .., n)", x.floods(0, -1, -1, n));
            number("plan(-1, 0)", x.plan(-1, 0));
            number("fences(-1)", x.fences(-1));
            number("level(n, 0)", x.level(n, 0));
            CHECK.due("read(n, 0)", x.read(n, 0), -9);
            CHECK.due("read(-1, 0)", x.read(-1, 0), -9);
            unchanged("near numbers", x, before);
        }
    }

    private static void number(String call, int got) {
        CHECK.due(call, got, DuneBench.NUMBER);
    }

    private static void unchanged(String calls, DuneBench x, String before) {
        CHECK.holds(calls + " change nothing", before.equals(Check.stateOf(x)));
        CHECK.due(calls + ": size", x.size(12), 12);
    }
}
