/** Boundary cases of the two sentences on refused calls, behind the terms. */
public final class RefusalEdgesTest {
    private static final Edges E = new Edges("RefusalEdgesTest");
    private static final int NUMBER = DuneBench.NUMBER;
    private static final int FULL = DuneBench.FULL;
    private static final int NONE = DuneBench.NONE;
    private static final int WIND = 0;
    private static final int STORM = 1;
    private static final int YEAR_END = 2;

    public static void main(String[] args) throws ReflectiveOperationException {
        E.run(RefusalEdgesTest.class, 1, 2);
    }

    private static void refusal1ChangesNothing() {
        E.sentence("A call that is refused (answers below 0, where not told otherwise) changes nothing.");
        E.refused("coast(8)", NUMBER, x -> x.coast(8));
        E.refused("set(0, 0, 100)", NUMBER, x -> x.set(0, 0, 100));
        E.refused("set(0, 3, 1)", NUMBER, x -> x.set(0, 3, 1));
        E.refused("of(7, 0)", NUMBER, x -> x.of(7, 0));
        E.refused("wind(10)", NUMBER, x -> x.wind(10));
        E.refused("storm(100)", NUMBER, x -> x.storm(100));
        E.refused("nourish(100)", NUMBER, x -> x.nourish(100));
        E.refused("event(0, 0, 10)", NUMBER, x -> x.event(0, WIND, 10));
        E.refused("calm(3)", NUMBER, x -> x.calm(3));
        E.refused("size(21)", NUMBER, x -> x.size(21));
        E.refused("crest(0, 0, 0, 7)", NUMBER, x -> x.crest(0, 0, 0, 7));
        E.refused("floods(0, 0, 0, 7)", NUMBER, x -> x.floods(0, 0, 0, 7));
        E.refused("plan(100, 0)", NUMBER, x -> x.plan(100, 0));
        E.refused("fences(100)", NUMBER, x -> x.fences(100));
        E.refused("read(0, 100)", -9, x -> x.read(0, 100));
        E.refused("level(7, 0)", NUMBER, x -> x.level(7, 0));
        E.refused("volume(2)", NUMBER, x -> x.volume(2));
        E.refused("doubt(2)", NUMBER, x -> x.doubt(2));
        E.refused("many(10)", NUMBER, x -> x.many(10));
    }

    private static void refusal1ManyRefusedCallsChangeNothing() {
        E.sentence("A call that is refused (answers below 0, where not told otherwise) changes nothing.");
        E.refusedOn("seven cells that are kept", () -> Benches.keeping(7), "sixty calls", NUMBER, x -> {
            for (int i = 0; i < 10; i++) {
                x.event(2, WIND, 1);
                x.coast(2);
                x.wind(0);
                x.storm(0);
                x.nourish(0);
                x.read(7, 1);
            }
            return x.size(0);
        });
    }

    private static void refusal1NoneAndFullChangeNothing() {
        E.sentence("A call that is refused (answers below 0, where not told otherwise) changes nothing.");
        E.refusedOn("a new object, too", DuneBench::new, "most()", NONE, DuneBench::most);
        E.refusedOn("a new object, too", DuneBench::new, "back()", NONE, DuneBench::back);
        E.refusedOn("a new object, too", DuneBench::new, "plan(0, 0)", NONE, x -> x.plan(0, 0));
        E.refusedOn("a new object, too", DuneBench::new, "level(0, 0)", NONE, x -> x.level(0, 0));
        E.refusedOn("a new object, too", DuneBench::new, "volume(0)", NONE, x -> x.volume(0));
        E.refusedOn("a new object, too", DuneBench::new, "doubt(0)", NONE, x -> x.doubt(0));
        E.refusedOn("a flooded coast", RefusalEdgesTest::flooded, "most()", NONE, DuneBench::most);
        E.refusedOn("a flooded coast", RefusalEdgesTest::flooded, "fences(0)", NONE, x -> x.fences(0));
        E.refusedOn("a flooded coast", RefusalEdgesTest::flooded, "plan(0, 0)", NONE, x -> x.plan(0, 0));
        E.refusedOn("a full weather", () -> Benches.busy(4), "event(2, 1, 9)", FULL, x -> x.event(2, STORM, 9));
        E.refusedOn("a full weather", () -> Benches.busy(4), "event(2, 2, 9)", FULL, x -> x.event(2, YEAR_END, 9));
    }

    private static void refusal1ReadTellsOtherwise() {
        E.sentence("where not told otherwise");
        DuneBench x = new DuneBench();
        E.due("-1 is no refusal: there was no reading", x.read(2, 5), -1);
        E.due("many(6)", x.many(6), 1);
        E.due("level(2, 0)", x.level(2, 0), 5);
        E.due("it is taken away", x.read(2, -1), 5);
        E.due("many(6)", x.many(6), 0);
    }

    private static void refusal2TheFirstNamedIsAnswered() {
        E.sentence("Of several refusals that a call names the first one named is answered.");
        DuneBench full = Benches.busy(5);
        E.due("a wind of 9 is full", full.event(2, WIND, 9), FULL);
        E.due("a wind of 10 is no number", full.event(2, WIND, 10), NUMBER);
        E.due("a wind of 0 is no number", full.event(2, WIND, 0), NUMBER);
        E.due("a storm of 99 is full", full.event(2, STORM, 99), FULL);
        E.due("a storm of 100 is no number", full.event(2, STORM, 100), NUMBER);
        E.due("an end is full, whatever v", full.event(2, YEAR_END, -5), FULL);
        E.due("kind 3 is no number", full.event(2, 3, 1), NUMBER);
        E.due("kind -1 is no number", full.event(2, -1, 1), NUMBER);
        DuneBench flooded = flooded();
        E.due("no plan", flooded.plan(99, 2), NONE);
        E.due("no such aim, no plan either", flooded.plan(100, 2), NUMBER);
        E.due("no such aim, no plan either", flooded.plan(-1, 2), NUMBER);
        E.due("no such year, no plan either", flooded.plan(99, 3), NUMBER);
        E.due("no such year, no plan either", flooded.plan(99, -1), NUMBER);
        E.due("no plan", flooded.fences(99), NONE);
        E.due("no such aim, no plan either", flooded.fences(100), NUMBER);
        E.due("no such aim, no plan either", flooded.fences(-1), NUMBER);
    }

    private static void refusal2NumberComesBeforeNoReadings() {
        E.sentence("Of several refusals that a call names the first one named is answered.");
        DuneBench x = new DuneBench();
        for (int readings = 0; readings < 2; readings++) {
            int none = readings == 0 ? NONE : 3;
            E.due("level(4, 0)", x.level(4, 0), none);
            E.due("level(5, 0)", x.level(5, 0), NUMBER);
            E.due("level(-1, 0)", x.level(-1, 0), NUMBER);
            E.due("level(4, 2)", x.level(4, 2), NUMBER);
            E.due("level(4, -1)", x.level(4, -1), NUMBER);
            E.due("volume(0)", x.volume(0), readings == 0 ? NONE : 15);
            E.due("volume(2)", x.volume(2), NUMBER);
            E.due("volume(-1)", x.volume(-1), NUMBER);
            E.due("doubt(1)", x.doubt(1), NONE);
            E.due("doubt(2)", x.doubt(2), NUMBER);
            E.due("doubt(-1)", x.doubt(-1), NUMBER);
            x.read(0, 3);
        }
    }

    /** No plan stands: houses are flooded whatever comes. */
    private static DuneBench flooded() {
        DuneBench x = Benches.coast(9, 8, 7, 6);
        x.event(1, STORM, 50);
        return x;
    }
}
