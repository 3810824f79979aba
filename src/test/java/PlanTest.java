/** Promises 9 to 16: event, calm, size, crest, floods, plan, fences, most. */
public final class PlanTest {
    private static final Check CHECK = new Check("PlanTest");
    private static final int WIND = 0;
    private static final int STORM = 1;
    private static final int YEAR_END = 2;

    public static void main(String[] args) {
        eventsFillAWeather();
        eventEdges();
        calmTakesEventsAway();
        sizeOfFences();
        crestWithFences();
        aFenceComesInPlaceOfAnOldOne();
        crestOverYears();
        crestGoesOnFromTheCoastAsItIs();
        floodsOfTheWeatherAlone();
        triesChangeNothing();
        planOfOneYear();
        planOfTwoYears();
        planForALaterYearAlone();
        planForALaterYearOfAnotherWeather();
        planForEachWeather();
        planAgainstFloods();
        planWithoutEvents();
        planOfThreeFences();
        planOnSevenCells();
        CHECK.end();
    }

    private static void eventsFillAWeather() {
        DuneBench x = new DuneBench();
        for (int weather = 0; weather < 3; weather++) {
            for (int i = 1; i <= 12; i++) {
                CHECK.due("event", x.event(weather, i % 3, 1), i);
                CHECK.due("many(7 + w)", x.many(7 + weather), i);
            }
            CHECK.due("event: a full wind", x.event(weather, WIND, 1), DuneBench.FULL);
            CHECK.due("event: a full end", x.event(weather, YEAR_END, 0), DuneBench.FULL);
            CHECK.due("event: full, but v is told first", x.event(weather, WIND, 10), DuneBench.NUMBER);
            CHECK.due("event: full, but kind is told first", x.event(weather, 3, 1), DuneBench.NUMBER);
            CHECK.due("event: many", x.many(7 + weather), 12);
        }
    }

    private static void eventEdges() {
        DuneBench x = new DuneBench();
        CHECK.due("event: wind 1", x.event(0, WIND, 1), 1);
        CHECK.due("event: wind 9", x.event(0, WIND, 9), 2);
        CHECK.due("event: storm 1", x.event(0, STORM, 1), 3);
        CHECK.due("event: storm 99", x.event(0, STORM, 99), 4);
        CHECK.due("event: end, least v", x.event(0, YEAR_END, Integer.MIN_VALUE), 5);
        CHECK.due("event: end, greatest v", x.event(0, YEAR_END, Integer.MAX_VALUE), 6);
        int[][] refused = {
            {0, WIND, 0}, {0, WIND, 10}, {0, WIND, -1}, {0, STORM, 0}, {0, STORM, 100}, {0, -1, 1},
            {0, 3, 1}, {-1, WIND, 1}, {3, WIND, 1}, {3, YEAR_END, 1}, {0, WIND, Integer.MIN_VALUE},
        };
        for (int[] row : refused) {
            CHECK.due("event: refused", x.event(row[0], row[1], row[2]), DuneBench.NUMBER);
        }
        CHECK.due("event: many(7)", x.many(7), 6);
        CHECK.due("event: many(8)", x.many(8), 0);
    }

    private static void calmTakesEventsAway() {
        DuneBench x = new DuneBench();
        for (int i = 0; i < 12; i++) {
            x.event(1, STORM, 40);
        }
        x.event(2, WIND, 4);
        CHECK.due("calm: none yet", x.calm(0), 0);
        CHECK.due("calm: a full one", x.calm(1), 12);
        CHECK.due("calm: again", x.calm(1), 0);
        CHECK.due("calm: another has its events", x.many(9), 1);
        CHECK.due("calm: floods", x.floods(1, -1, -1, -1), 0);
        CHECK.due("calm: event again", x.event(1, WIND, 4), 1);
        CHECK.due("calm: refused -1", x.calm(-1), DuneBench.NUMBER);
        CHECK.due("calm: refused 3", x.calm(3), DuneBench.NUMBER);
    }

    private static void sizeOfFences() {
        DuneBench x = level50();
        CHECK.due("size: at first 10", x.crest(0, 2, -1, -1), 53);
        CHECK.due("size(1)", x.size(1), 10);
        CHECK.due("size: 1", x.crest(0, 2, -1, -1), 44);
        CHECK.due("size(20)", x.size(20), 1);
        CHECK.due("size: 20", x.crest(0, 2, -1, -1), 58);
        CHECK.due("size(0)", x.size(0), DuneBench.NUMBER);
        CHECK.due("size(21)", x.size(21), DuneBench.NUMBER);
        CHECK.due("size: still 20", x.size(20), 20);
    }

    private static void crestWithFences() {
        DuneBench x = level50();
        x.size(20);
        CHECK.due("crest: none", x.crest(0, -1, -1, -1), 43);
        CHECK.due("crest: cell 0", x.crest(0, 0, -1, -1), 43);
        CHECK.due("crest: cell 1", x.crest(0, 1, -1, -1), 50);
        CHECK.due("crest: cell 2", x.crest(0, 2, -1, -1), 58);
        CHECK.due("crest: years that don't come", x.crest(0, -1, 2, 2), 43);
        CHECK.due("crest: no events", x.crest(1, 2, 2, 2), 50);
        CHECK.due("floods: no events", x.floods(1, 2, 2, 2), 0);
        int[][] refused = {{-1, 0, 0, 0}, {3, 0, 0, 0}, {0, 3, 0, 0}, {0, 0, 3, 0}, {0, 0, 0, 3},
            {0, -2, 0, 0}, {0, 0, -2, 0}, {0, 0, 0, -2}, {1, 3, 0, 0}, {0, 0, Integer.MAX_VALUE, 0}};
        for (int[] row : refused) {
            CHECK.due("crest: refused", x.crest(row[0], row[1], row[2], row[3]), DuneBench.NUMBER);
            CHECK.due("floods: refused", x.floods(row[0], row[1], row[2], row[3]), DuneBench.NUMBER);
        }
    }

    private static void aFenceComesInPlaceOfAnOldOne() {
        DuneBench x = level50();
        x.set(2, 2, 20);
        x.size(1);
        CHECK.due("in place: none", x.crest(0, -1, -1, -1), 58);
        CHECK.due("in place: a smaller one", x.crest(0, 2, -1, -1), 44);
        CHECK.due("in place: of(2, 2)", x.of(2, 2), 20);
    }

    private static void crestOverYears() {
        DuneBench x = twoYears();
        CHECK.due("years: none", x.crest(0, -1, -1, -1), 36);
        CHECK.due("years: 0", x.crest(0, 2, -1, -1), 56);
        CHECK.due("years: 1", x.crest(0, -1, 2, -1), 51);
        CHECK.due("years: 0 and 1", x.crest(0, 2, 2, -1), 66);
        CHECK.due("years: two cells", x.crest(0, 2, 1, -1), 55);
        CHECK.due("years: a third one sets nothing", x.crest(0, -1, -1, 2), 36);
        x.calm(0);
        x.event(0, YEAR_END, 0);
        x.event(0, YEAR_END, 0);
        x.event(0, WIND, 9);
        CHECK.due("years: the third one", x.crest(0, -1, -1, 2), 58);
        x.calm(0);
        x.event(0, YEAR_END, 0);
        x.event(0, YEAR_END, 0);
        x.event(0, YEAR_END, 0);
        x.event(0, WIND, 9);
        CHECK.due("years: a fourth one sets nothing new", x.crest(0, -1, -1, 2), 58);
        CHECK.due("years: a fourth one without", x.crest(0, -1, -1, -1), 43);
    }

    private static void crestGoesOnFromTheCoastAsItIs() {
        DuneBench x = new DuneBench();
        x.coast(3);
        x.set(0, 0, 10);
        x.set(1, 1, 1);
        x.wind(1);
        CHECK.due("as it is: of(1, 3)", x.of(1, 3), 1);
        x.event(0, YEAR_END, 0);
        x.event(0, WIND, 9);
        CHECK.due("as it is: what was kept lets grass grow", x.crest(0, -1, -1, -1), 5);
        x.end();
        x.set(1, 1, 1);
        CHECK.due("as it is: nothing was kept", x.crest(0, -1, -1, -1), 3);
    }

    private static void floodsOfTheWeatherAlone() {
        DuneBench x = new DuneBench();
        x.storm(50);
        x.storm(50);
        x.set(4, 0, 50);
        x.event(0, STORM, 50);
        x.event(0, STORM, 50);
        x.event(0, STORM, 50);
        x.event(1, STORM, 50);
        CHECK.due("floods: past ones don't count", x.floods(1, -1, -1, -1), 0);
        CHECK.due("floods: twice", x.floods(0, -1, -1, -1), 2);
        CHECK.due("floods: crest", x.crest(0, -1, -1, -1), 10);
        CHECK.due("floods: many(3)", x.many(3), 2);
        CHECK.due("floods: no plan", x.fences(0), DuneBench.NONE);
        CHECK.due("floods: no most", x.most(), DuneBench.NONE);
        x.calm(0);
        CHECK.due("floods: past ones don't matter", x.fences(38), 0);
        CHECK.due("floods: most()", x.most(), 38);
    }

    private static void triesChangeNothing() {
        DuneBench x = twoYears();
        x.event(1, STORM, 99);
        x.set(1, 1, 2);
        x.wind(4);
        x.read(1, 4);
        String before = Check.stateOf(x);
        x.crest(0, 0, 1, 2);
        x.floods(1, 0, 1, 2);
        x.plan(40, 1);
        x.fences(99);
        x.most();
        CHECK.holds("tries change nothing", before.equals(Check.stateOf(x)));
    }

    private static void planOfOneYear() {
        DuneBench x = level50();
        x.size(20);
        planIs(x, 0, 0, -3, -3, -3);
        planIs(x, 43, 0, -3, -3, -3);
        planIs(x, 44, 1, 1, -3, -3);
        planIs(x, 50, 1, 1, -3, -3);
        planIs(x, 51, 1, 2, -3, -3);
        planIs(x, 58, 1, 2, -3, -3);
        planIs(x, 59, -3, -3, -3, -3);
        planIs(x, 99, -3, -3, -3, -3);
        planIs(x, 100, -1, -1, -1, -1);
        planIs(x, -1, -1, -1, -1, -1);
        CHECK.due("one year: plan(0, 3)", x.plan(0, 3), DuneBench.NUMBER);
        CHECK.due("one year: plan(0, -1)", x.plan(0, -1), DuneBench.NUMBER);
        CHECK.due("one year: plan(99, 3)", x.plan(99, 3), DuneBench.NUMBER);
        CHECK.due("one year: most()", x.most(), 58);
        x.size(10);
        CHECK.due("one year: most() with size 10", x.most(), 53);
    }

    private static void planOfTwoYears() {
        DuneBench x = twoYears();
        planIs(x, 36, 0, -3, -3, -3);
        planIs(x, 37, 1, 1, -3, -3);
        planIs(x, 50, 1, 1, -3, -3);
        planIs(x, 51, 1, 2, -3, -3);
        planIs(x, 56, 1, 2, -3, -3);
        planIs(x, 57, 2, 2, 2, -3);
        planIs(x, 66, 2, 2, 2, -3);
        planIs(x, 67, -3, -3, -3, -3);
        CHECK.due("two years: most()", x.most(), 66);
    }

    private static void planForALaterYearAlone() {
        DuneBench x = new DuneBench();
        x.coast(3);
        x.set(0, 0, 36);
        threeWindsAndAnEnd(x);
        x.event(0, WIND, 9);
        CHECK.due("later: none", x.crest(0, -1, -1, -1), 2);
        planIs(x, 2, 0, -3, -3, -3);
        planIs(x, 3, 1, -3, 1, -3);
        planIs(x, 9, 1, -3, 1, -3);
        planIs(x, 10, -3, -3, -3, -3);
        x.calm(0);
        x.set(0, 0, 63);
        threeWindsAndAnEnd(x);
        threeWindsAndAnEnd(x);
        x.event(0, WIND, 9);
        planIs(x, 9, 1, -3, -3, 1);
        CHECK.due("later: most()", x.most(), 9);
    }

    /** Year 0 ends at once, and only the second weather comes to years 1 and 2. */
    private static void planForALaterYearOfAnotherWeather() {
        DuneBench x = new DuneBench();
        x.coast(3);
        x.set(0, 0, 36);
        x.event(0, STORM, 1);
        x.event(1, YEAR_END, 0);
        for (int i = 0; i < 3; i++) {
            x.event(1, WIND, 9);
        }
        x.event(1, YEAR_END, 0);
        x.event(1, WIND, 9);
        planIs(x, 2, 0, -3, -3, -3);
        planIs(x, 3, 1, -3, -3, 1);
        planIs(x, 9, 1, -3, -3, 1);
        planIs(x, 10, -3, -3, -3, -3);
        CHECK.due("another weather: most()", x.most(), 9);
    }

    private static void planForEachWeather() {
        DuneBench x = level50();
        x.size(20);
        x.event(1, WIND, 9);
        x.event(1, STORM, 51);
        CHECK.due("each: floods without", x.floods(1, -1, -1, -1), 1);
        CHECK.due("each: floods with cell 1", x.floods(1, 1, -1, -1), 1);
        CHECK.due("each: floods with cell 2", x.floods(1, 2, -1, -1), 0);
        CHECK.due("each: crest with cell 2", x.crest(1, 2, -1, -1), 46);
        CHECK.due("each: most()", x.most(), 46);
        planIs(x, 0, 1, 2, -3, -3);
        planIs(x, 46, 1, 2, -3, -3);
        planIs(x, 47, -3, -3, -3, -3);
        x.event(2, STORM, 51);
        planIs(x, 0, -3, -3, -3, -3);
        CHECK.due("each: the third floods", x.most(), DuneBench.NONE);
        x.calm(2);
        x.calm(1);
        CHECK.due("each: most() again", x.most(), 58);
    }

    private static void planAgainstFloods() {
        DuneBench x = new DuneBench();
        x.event(0, STORM, 1);
        CHECK.due("floods: no plan for 0", x.fences(0), DuneBench.NONE);
        CHECK.due("floods: most() not even 0", x.most(), DuneBench.NONE);
        x.calm(0);
        x.event(0, WIND, 1);
        CHECK.due("floods: a plan for 0", x.fences(0), 0);
        CHECK.due("floods: most() is 0", x.most(), 0);
        CHECK.due("floods: none for 1", x.fences(1), DuneBench.NONE);
        x.set(3, 0, 99);
        x.calm(0);
        x.event(0, YEAR_END, 1);
        CHECK.due("floods: most() is 99", x.most(), 99);
        CHECK.due("floods: fences(99)", x.fences(99), 0);
    }

    private static void planWithoutEvents() {
        DuneBench x = new DuneBench();
        planIs(x, 0, 0, -3, -3, -3);
        planIs(x, 99, 0, -3, -3, -3);
        CHECK.due("no events: most()", x.most(), DuneBench.NONE);
        CHECK.due("no events: fences(100)", x.fences(100), DuneBench.NUMBER);
    }

    /** Every year has a wind that fills a fence, so the crest needs one more each year. */
    private static void planOfThreeFences() {
        DuneBench x = twoYears();
        x.event(0, YEAR_END, 0);
        x.event(0, WIND, 9);
        int most = x.most();
        CHECK.due("three: most()", most, x.crest(0, 2, 2, 2));
        planIs(x, most, 3, 2, 2, 2);
        planIs(x, most + 1, -3, -3, -3, -3);
    }

    private static void planOnSevenCells() {
        DuneBench x = new DuneBench();
        x.coast(7);
        for (int cell = 0; cell < 7; cell++) {
            x.set(cell, 0, 50);
        }
        x.size(20);
        x.event(0, WIND, 9);
        CHECK.due("seven: without", x.crest(0, -1, -1, -1), 47);
        CHECK.due("seven: the last cell", x.crest(0, 6, -1, -1), 67);
        CHECK.due("seven: the last but one", x.crest(0, 5, -1, -1), 66);
        CHECK.due("seven: most()", x.most(), 67);
        planIs(x, 66, 1, 5, -3, -3);
        planIs(x, 67, 1, 6, -3, -3);
    }

    private static void threeWindsAndAnEnd(DuneBench x) {
        for (int i = 0; i < 3; i++) {
            x.event(0, WIND, 9);
        }
        x.event(0, YEAR_END, 0);
    }

    /** Three cells of 50 and one wind of 9. */
    private static DuneBench level50() {
        DuneBench x = new DuneBench();
        x.coast(3);
        for (int cell = 0; cell < 3; cell++) {
            x.set(cell, 0, 50);
        }
        x.event(0, WIND, 9);
        return x;
    }

    /** The same with a second wind in a second year, and fences of 20. */
    private static DuneBench twoYears() {
        DuneBench x = level50();
        x.event(0, YEAR_END, 0);
        x.event(0, WIND, 9);
        x.size(20);
        return x;
    }

    private static void planIs(DuneBench x, int aim, int fences, int first, int second, int third) {
        CHECK.due("fences(" + aim + ")", x.fences(aim), fences);
        CHECK.due("plan(" + aim + ", 0)", x.plan(aim, 0), first);
        CHECK.due("plan(" + aim + ", 1)", x.plan(aim, 1), second);
        CHECK.due("plan(" + aim + ", 2)", x.plan(aim, 2), third);
    }
}
