/** Boundary cases of term 2: weathers, their events and years, and plans. */
public final class Term2EdgesTest {
    private static final Edges E = new Edges("Term2EdgesTest");
    private static final int HEIGHT = 0;
    private static final int GRASS = 1;
    private static final int FENCE = 2;
    private static final int WIND = 0;
    private static final int STORM = 1;
    private static final int YEAR_END = 2;
    private static final int NONE = DuneBench.NONE;

    public static void main(String[] args) throws ReflectiveOperationException {
        E.run(Term2EdgesTest.class, 2, 2);
    }

    // ---- weathers

    private static void term2WeathersAre0To2() {
        E.sentence("WEATHERS are 0 to 2");
        E.numberWithin("event", 0, 2, (x, weather) -> x.event(weather, WIND, 1));
        E.numberWithin("event of an end", 0, 2, (x, weather) -> x.event(weather, YEAR_END, 1));
        E.numberWithin("calm", 0, 2, DuneBench::calm);
        E.numberWithin("crest", 0, 2, (x, weather) -> x.crest(weather, -1, -1, -1));
        E.numberWithin("floods", 0, 2, (x, weather) -> x.floods(weather, -1, -1, -1));
    }

    private static void term2EventsAre12AtMost() {
        E.sentence("EVENTS, 12 at most");
        for (int weather = 0; weather < 3; weather++) {
            int full = weather;
            DuneBench x = filled(weather, 11);
            E.due("the twelfth", x.event(weather, WIND, 9), 12);
            E.due("many", x.many(7 + weather), 12);
            for (int kind = 0; kind < 3; kind++) {
                int which = kind;
                E.refusedOn("a full weather " + full, () -> filled(full, 12), "a thirteenth", DuneBench.FULL,
                    y -> y.event(full, which, 9));
            }
            int other = (weather + 1) % 3;
            E.due("another weather isn't full", x.event(other, WIND, 9), 1);
        }
    }

    private static DuneBench filled(int weather, int events) {
        DuneBench x = Benches.coast(50, 50, 50);
        for (int i = 0; i < events; i++) {
            x.event(weather, WIND, 1 + i % 9);
        }
        return x;
    }

    private static void term2NoEventsAtFirst() {
        E.sentence("(none at first)");
        DuneBench x = Benches.coast(50, 40, 30);
        for (int weather = 0; weather < 3; weather++) {
            E.due("many", x.many(7 + weather), 0);
            E.due("crest", x.crest(weather, 0, 1, 2), 50);
            E.due("floods", x.floods(weather, 0, 1, 2), 0);
            E.due("calm", x.calm(weather), 0);
        }
    }

    private static void term2EventIsAWindAStormOrAnEnd() {
        E.sentence("a WIND, a STORM, or that THE YEAR ENDS");
        DuneBench x = Benches.coast(6, 0, 0);
        x.set(1, GRASS, 1);
        x.event(0, WIND, 2);
        E.due("a wind leaves 4 2 0", x.crest(0, -1, -1, -1), 4);
        x.event(0, YEAR_END, 0);
        E.due("the end leaves them", x.crest(0, -1, -1, -1), 4);
        x.event(0, WIND, 6);
        E.due("with a grass of 2 a wind leaves 0 4 1", x.crest(0, -1, -1, -1), 4);
        x.event(0, STORM, 4);
        E.due("a storm leaves 0 3 1", x.crest(0, -1, -1, -1), 3);
        E.due("and floods nothing", x.floods(0, -1, -1, -1), 0);
        E.numberWithin("kind", 0, 2, (y, kind) -> y.event(0, kind, 1));
    }

    private static void term2YearsAreNumberedFrom0() {
        E.sentence("YEARS of a WEATHER are numbered from 0, the next one begins behind each such end.");
        DuneBench x = level50(20);
        x.event(0, WIND, 9);
        crests(x, 58, 43, 43);
        x.event(0, YEAR_END, 0);
        crests(x, 58, 43, 43);
        x.calm(0);
        x.event(0, YEAR_END, 0);
        x.event(0, WIND, 9);
        crests(x, 58, 58, 43);
        x.calm(0);
        x.event(0, YEAR_END, 0);
        x.event(0, YEAR_END, 0);
        x.event(0, WIND, 9);
        crests(x, 58, 58, 58);
    }

    /** The crest of weather 0 with a fence at the last of three cells in year 0, 1 or 2 alone. */
    private static void crests(DuneBench x, int first, int second, int third) {
        E.due("crest, year 0", x.crest(0, 2, -1, -1), first);
        E.due("crest, year 1", x.crest(0, -1, 2, -1), second);
        E.due("crest, year 2", x.crest(0, -1, -1, 2), third);
    }

    // ---- plans

    private static void term2FencesComeInYears0To2Alone() {
        E.sentence("A PLAN gives YEARS 0, 1 and 2 a CELL each");
        for (int ends = 3; ends <= 10; ends++) {
            DuneBench x = level50(15);
            x.event(0, WIND, 9);
            for (int i = 0; i < ends; i++) {
                x.event(0, YEAR_END, 0);
            }
            x.event(0, WIND, 9);
            // The first wind fills the fence; were one set again in a later year the crest would be 66.
            E.due("a fence of year 0 isn't set again", x.crest(0, 2, -1, -1), 51);
            E.due("that of year 2 is there for the last wind", x.crest(0, 2, -1, 2), 66);
        }
        DuneBench x = level50(15);
        for (int i = 0; i < 12; i++) {
            x.event(0, YEAR_END, 0);
        }
        E.due("thirteen years", x.crest(0, 0, 1, 2), 50);
    }

    private static void term2SizeIs1To20() {
        E.sentence("SIZE (1 to 20");
        DuneBench x = level50(1);
        x.event(0, WIND, 9);
        E.due("a fence of 1", x.crest(0, 2, -1, -1), 44);
        x.size(14);
        E.due("a fence of 14", x.crest(0, 2, -1, -1), 57);
        x.size(20);
        E.due("a fence of 20", x.crest(0, 2, -1, -1), 58);
        x.event(0, WIND, 9);
        E.due("what 20 holds in two winds", x.crest(0, 2, -1, -1), 56);
        E.numberWithin("size", 1, 20, DuneBench::size);
    }

    private static void term2SizeIs10AtFirst() {
        E.sentence("10 at first");
        DuneBench x = Benches.coast(50, 50, 50);
        x.event(0, WIND, 9);
        E.due("crest", x.crest(0, 2, -1, -1), 53);
        E.due("size", x.size(10), 10);
        E.due("crest with 10", x.crest(0, 2, -1, -1), 53);
    }

    private static void term2FenceComesInPlaceOfAnOldOne() {
        E.sentence("(in place of an old one)");
        DuneBench x = level50(10);
        x.event(0, WIND, 9);
        for (int old : new int[] {0, 1, 10, 20}) {
            x.set(2, FENCE, old);
            E.due("10 in place of " + old, x.crest(0, 2, -1, -1), 53);
            E.due("the coast's own stays", x.of(2, FENCE), old);
        }
    }

    private static void term2PlanMayGiveNone() {
        E.sentence("or none");
        DuneBench x = level50(20);
        x.event(0, WIND, 9);
        x.set(2, FENCE, 3);
        E.due("no fence is set, the old one stays", x.crest(0, -1, -1, -1), 46);
        E.planIs(x, 46, 0, NONE, NONE, NONE);
        E.planIs(x, 47, 1, 1, NONE, NONE);
    }

    private static void term2AimIs0To99() {
        E.sentence("It STANDS for an AIM (0 to 99)");
        DuneBench x = Benches.coast(0, 0, 99);
        x.event(0, YEAR_END, 0);
        E.planIs(x, 0, 0, NONE, NONE, NONE);
        E.planIs(x, 99, 0, NONE, NONE, NONE);
        E.numberWithin("fences", 0, 99, DuneBench::fences);
        E.numberWithin("plan", 0, 99, (y, aim) -> y.plan(aim, 0));
    }

    private static void term2PlanBeginsWithTheCoastAsItIs() {
        E.sentence("from THE COAST as it is");
        DuneBench x = level50(20);
        x.event(0, WIND, 9);
        E.due("fences(43)", x.fences(43), 0);
        E.due("fences(44)", x.fences(44), 1);
        x.set(2, HEIGHT, 51);
        E.due("fences(44) with one more", x.fences(44), 0);
        E.due("fences(45) with one more", x.fences(45), 1);
        x.set(2, HEIGHT, 49);
        E.due("fences(42) with one less", x.fences(42), 0);
        E.due("fences(43) with one less", x.fences(43), 1);
    }

    private static void term2WeathersWithoutEventsDontCount() {
        E.sentence("with each WEATHER that has EVENTS");
        for (int weather = 0; weather < 3; weather++) {
            DuneBench x = level50(20);
            x.event(weather, WIND, 9);
            E.due("the others would end with 50", x.fences(58), 1);
            x.event((weather + 1) % 3, YEAR_END, 0);
            E.due("one of them has an event", x.fences(58), NONE);
            E.due("and ends with 50", x.fences(50), 1);
        }
    }

    private static void term2EachWeatherComesByItself() {
        E.sentence("(by itself)");
        DuneBench x = level50(20);
        for (int weather = 0; weather < 3; weather++) {
            x.event(weather, WIND, 9);
        }
        E.due("fences(43)", x.fences(43), 0);
        E.due("fences(58)", x.fences(58), 1);
        E.due("most()", x.most(), 58);
    }

    private static void term2CrestIsAimOrMore() {
        E.sentence("at last the CREST (the greatest HEIGHT) is AIM or more");
        DuneBench x = Benches.coast(50, 0, 0);
        x.event(0, STORM, 40);
        E.due("just as high", x.fences(40), 0);
        E.due("one more", x.fences(41), NONE);
        E.due("most()", x.most(), 40);
        for (int cell = 0; cell < 3; cell++) {
            DuneBench y = new DuneBench();
            y.coast(3);
            y.set(cell, HEIGHT, 30);
            y.event(0, YEAR_END, 0);
            E.due("the greatest in cell " + cell, y.fences(30), 0);
            E.due("and no more", y.fences(31), NONE);
        }
    }

    private static void term2HousesWereNotFlooded() {
        E.sentence("and HOUSES were not FLOODED in it");
        DuneBench x = Benches.coast(0, 0, 50);
        x.event(1, STORM, 50);
        E.due("the last cell holds", x.fences(0), 0);
        E.due("most()", x.most(), 38);
        x.calm(1);
        x.event(1, STORM, 51);
        E.due("once is too often", x.floods(1, -1, -1, -1), 1);
        E.due("fences(0)", x.fences(0), NONE);
        E.due("most()", x.most(), NONE);
        x.storm(99);
        x.set(2, HEIGHT, 51);
        E.due("it was flooded before", x.many(3), 1);
        E.due("but isn't in it", x.fences(0), 0);
    }

    private static void term2YearThatDoesntComeSetsNothing() {
        E.sentence("(A YEAR that a WEATHER doesn't come to sets nothing.)");
        DuneBench x = level50(20);
        x.event(0, WIND, 9);
        x.event(1, YEAR_END, 0);
        x.event(1, WIND, 9);
        E.due("weather 0 has no year 1", x.crest(0, -1, 2, 2), 43);
        E.due("weather 1 has one", x.crest(1, -1, 2, -1), 58);
        E.due("but no year 2", x.crest(1, -1, -1, 2), 43);
        E.planIs(x, 58, 1, 2, NONE, NONE);
    }

    private static void term2PlanHasTheFewestFences() {
        E.sentence("THE PLAN for an AIM STANDS with the fewest FENCES");
        DuneBench x = level50(20);
        x.event(0, WIND, 9);
        x.event(0, YEAR_END, 0);
        x.event(0, WIND, 9);
        E.due("one fence reaches 56", x.crest(0, 2, -1, -1), 56);
        E.due("two, at a lesser cell, 51", x.crest(0, 0, 2, -1), 51);
        E.planIs(x, 36, 0, NONE, NONE, NONE);
        E.planIs(x, 37, 1, 1, NONE, NONE);
        E.planIs(x, 51, 1, 2, NONE, NONE);
        E.planIs(x, 56, 1, 2, NONE, NONE);
        E.planIs(x, 57, 2, 2, 2, NONE);
        E.planIs(x, 66, 2, 2, 2, NONE);
        E.planIs(x, 67, NONE, NONE, NONE, NONE);
    }

    private static void term2FirstUnlikeYearHasTheLesserCell() {
        E.sentence("the first YEAR for which they are unlike has the lesser CELL");
        DuneBench x = twoFencesNeeded(1);
        int[][] cellsCrest = {{1, 2, 7}, {1, 3, 4}, {2, 1, 7}, {2, 3, 6}, {3, 1, 4}, {3, 2, 6}};
        for (int[] row : cellsCrest) {
            E.due("crest", x.crest(0, row[0], row[1], -1), row[2]);
        }
        E.planIs(x, 3, 0, NONE, NONE, NONE);
        E.planIs(x, 4, 2, 1, 2, NONE);
        E.planIs(x, 7, 2, 1, 2, NONE);
        E.planIs(x, 8, NONE, NONE, NONE, NONE);
    }

    private static void term2NoneStandsBehindAll() {
        E.sentence("(none stands behind all)");
        DuneBench x = new DuneBench();
        x.coast(7);
        for (int cell = 0; cell < 7; cell++) {
            x.set(cell, HEIGHT, 50);
        }
        x.size(20);
        x.event(0, YEAR_END, 0);
        x.event(0, WIND, 9);
        E.due("in year 0", x.crest(0, 6, -1, -1), 67);
        E.due("in year 1", x.crest(0, -1, 6, -1), 67);
        E.planIs(x, 67, 1, 6, NONE, NONE);
        E.planIs(x, 66, 1, 5, NONE, NONE);
        DuneBench y = twoFencesNeeded(2);
        E.due("none in year 0", y.crest(0, -1, 1, 2), 7);
        E.due("none in year 1", y.crest(0, 1, -1, 2), 7);
        E.due("none in year 2", y.crest(0, 1, 2, -1), 7);
        E.planIs(y, 7, 2, 1, 2, NONE);
    }

    /** Years end at once; then of two winds the first fills one cell and the second one behind it. */
    private static DuneBench twoFencesNeeded(int ends) {
        DuneBench x = Benches.coast(10, 0, 0, 0);
        x.set(2, GRASS, 1);
        x.set(3, GRASS, 1);
        for (int i = 0; i < ends; i++) {
            x.event(0, YEAR_END, 0);
        }
        x.event(0, WIND, 7);
        x.event(0, WIND, 9);
        return x;
    }

    /** Three cells of 50: a wind of 9 leaves 41, 42 and 43, or up to 15 more in the last by its fence. */
    private static DuneBench level50(int size) {
        DuneBench x = Benches.coast(50, 50, 50);
        x.size(size);
        return x;
    }
}
