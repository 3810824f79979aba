/** Boundary cases of promises 9 to 16: event, calm, size, crest, floods, plan, fences, most. */
public final class PlanEdgesTest {
    private static final Edges E = new Edges("PlanEdgesTest");
    private static final int NUMBER = DuneBench.NUMBER;
    private static final int FULL = DuneBench.FULL;
    private static final int NONE = DuneBench.NONE;
    private static final int WIND = 0;
    private static final int STORM = 1;
    private static final int YEAR_END = 2;

    public static void main(String[] args) throws ReflectiveOperationException {
        E.run(PlanEdgesTest.class, 9, 16);
    }

    // ---- event

    private static void promise9NoSuchWeather() {
        E.sentence("NUMBER: there is no such WEATHER");
        for (int kind = 0; kind < 3; kind++) {
            int which = kind;
            E.numberWithin("event of kind " + kind, 0, 2, (x, weather) -> x.event(weather, which, 1));
        }
    }

    private static void promise9NoSuchKind() {
        E.sentence("NUMBER: there is no such WEATHER, kind");
        for (int weather = 0; weather < 3; weather++) {
            int which = weather;
            E.numberWithin("event of weather " + weather, 0, 2, (x, kind) -> x.event(which, kind, 1));
        }
    }

    private static void promise9VOfAWind() {
        E.sentence("or v isn't as told");
        E.numberWithin("a wind", 1, 9, (x, v) -> x.event(0, WIND, v));
        for (int v : new int[] {1, 9}) {
            DuneBench x = Benches.coast(40, 0, 0);
            E.due("event", x.event(0, WIND, v), 1);
            E.due("it blows so", x.crest(0, -1, -1, -1), 40 - v);
        }
    }

    private static void promise9VOfAStorm() {
        E.sentence("or v isn't as told");
        E.numberWithin("a storm", 1, 99, (x, v) -> x.event(1, STORM, v));
        DuneBench x = Benches.coast(1, 0, 0);
        E.due("event", x.event(1, STORM, 1), 1);
        E.due("a storm of 1", x.floods(1, -1, -1, -1), 0);
        x.set(0, 0, 0);
        E.due("a storm of 1 floods", x.floods(1, -1, -1, -1), 1);
        x.calm(1);
        x.set(0, 0, 99);
        E.due("event", x.event(1, STORM, 99), 1);
        E.due("a storm of 99", x.crest(1, -1, -1, -1), 75);
        x.set(0, 0, 98);
        E.due("a storm of 99 floods", x.floods(1, -1, -1, -1), 1);
    }

    private static void promise9VOfAnEndCountsNothing() {
        E.sentence("v counts nothing");
        int[] values = {Integer.MIN_VALUE, -1, 0, 1, 9, 10, 99, 100, Integer.MAX_VALUE};
        DuneBench x = Benches.coast(20, 0, 0);
        for (int i = 0; i < values.length; i++) {
            E.due("event with " + values[i], x.event(2, YEAR_END, values[i]), i + 1);
        }
        E.due("crest", x.crest(2, -1, -1, -1), 20);
        E.due("floods", x.floods(2, -1, -1, -1), 0);
    }

    private static void promise9Full() {
        E.sentence("FULL.");
        for (int weather = 0; weather < 3; weather++) {
            int which = weather;
            DuneBench x = Benches.coast(90, 0, 0);
            for (int i = 1; i <= 12; i++) {
                E.due("how many it has", x.event(weather, i % 3, 2), i);
            }
            E.due("the thirteenth", x.event(weather, WIND, 2), FULL);
            E.due("many", x.many(7 + weather), 12);
            E.refusedOn("full weather " + weather, () -> full(which), "event", FULL, y -> y.event(which, STORM, 99));
            x.calm(weather);
            E.due("it is calm: the first again", x.event(weather, WIND, 2), 1);
        }
    }

    private static DuneBench full(int weather) {
        DuneBench x = Benches.coast(90, 80, 0);
        for (int i = 0; i < 12; i++) {
            x.event(weather, i % 2, 5);
        }
        return x;
    }

    // ---- calm

    private static void promise10HowManyItHad() {
        E.sentence("A WEATHER has no EVENTS any more: how many it had.");
        for (int events : new int[] {0, 1, 11, 12}) {
            DuneBench x = Benches.coast(50, 0, 0);
            for (int i = 0; i < events; i++) {
                x.event(1, WIND, 1);
                x.event(2, WIND, 1);
            }
            E.due("calm(1)", x.calm(1), events);
            E.due("many(8)", x.many(8), 0);
            E.due("many(9)", x.many(9), events);
            E.due("calm(1) again", x.calm(1), 0);
            E.due("crest", x.crest(1, -1, -1, -1), 50);
        }
    }

    private static void promise10OldEventsDontComeBack() {
        E.sentence("A WEATHER has no EVENTS any more");
        DuneBench x = full(0);
        x.calm(0);
        x.event(0, YEAR_END, 0);
        E.due("many(7)", x.many(7), 1);
        E.due("crest", x.crest(0, -1, -1, -1), 90);
        E.due("floods", x.floods(0, -1, -1, -1), 0);
    }

    private static void promise10NoneSuch() {
        E.sentence("NUMBER: there is none such.");
        E.numberWithin("calm", 0, 2, DuneBench::calm);
    }

    // ---- size

    private static void promise11WhatItWas() {
        E.sentence("SIZE: what it was.");
        DuneBench x = new DuneBench();
        E.due("10 at first", x.size(1), 10);
        E.due("the least", x.size(20), 1);
        E.due("the greatest", x.size(20), 20);
        E.due("refused", x.size(21), NUMBER);
        E.due("refused", x.size(0), NUMBER);
        E.due("still 20", x.size(5), 20);
    }

    private static void promise11VIsnt1To20() {
        E.sentence("NUMBER: v isn't 1 to 20.");
        E.numberWithin("size", 1, 20, DuneBench::size);
    }

    // ---- crest and floods

    private static void promise12NoSuchWeather() {
        E.sentence("NUMBER: there is no such WEATHER");
        E.numberWithin("crest", 0, 2, (x, weather) -> x.crest(weather, 0, 1, 2));
    }

    private static void promise12ACellIsNone() {
        E.sentence("or a CELL is none (nor -1)");
        for (int weather = 0; weather < 3; weather++) {
            int w = weather;
            E.cellWithin("crest, first", -1, NUMBER, (x, cell) -> x.crest(w, cell, -1, 0));
            E.cellWithin("crest, second", -1, NUMBER, (x, cell) -> x.crest(w, 0, cell, -1));
            E.cellWithin("crest, third", -1, NUMBER, (x, cell) -> x.crest(w, -1, 0, cell));
        }
    }

    private static void promise12CellsOfYearsThatDontCome() {
        E.sentence("or a CELL is none (nor -1)");
        DuneBench x = new DuneBench();
        E.due("without any event", x.crest(0, 4, 4, 4), 0);
        E.due("the first is none", x.crest(0, 5, 4, 4), NUMBER);
        E.due("the second is none", x.crest(0, 4, 5, 4), NUMBER);
        E.due("the third is none", x.crest(0, 4, 4, -2), NUMBER);
    }

    private static void promise12Crest() {
        E.sentence("THE CREST with which a WEATHER would end");
        DuneBench x = new DuneBench();
        E.due("the least", x.crest(0, -1, -1, -1), 0);
        x.set(4, 0, 99);
        E.due("the greatest", x.crest(0, -1, -1, -1), 99);
        x.event(0, STORM, 4);
        E.due("one less", x.crest(0, -1, -1, -1), 98);
        E.due("it is only tried", x.many(5), 99);
    }

    private static void promise13NoSuchWeather() {
        E.sentence("NUMBER likewise.");
        E.numberWithin("floods", 0, 2, (x, weather) -> x.floods(weather, 0, 1, 2));
    }

    private static void promise13ACellIsNone() {
        E.sentence("NUMBER likewise.");
        E.cellWithin("floods, first", -1, NUMBER, (x, cell) -> x.floods(2, cell, -1, 0));
        E.cellWithin("floods, second", -1, NUMBER, (x, cell) -> x.floods(0, 0, cell, -1));
        E.cellWithin("floods, third", -1, NUMBER, (x, cell) -> x.floods(1, -1, 0, cell));
    }

    private static void promise13HowOften() {
        E.sentence("How often HOUSES would be FLOODED in it likewise.");
        DuneBench x = new DuneBench();
        x.storm(99);
        for (int i = 0; i <= 12; i++) {
            E.due("floods of " + i, x.floods(0, -1, -1, -1), i);
            x.event(0, STORM, 99);
        }
        E.due("it is only tried", x.many(3), 1);
        DuneBench y = Benches.coast(0, 0, 30);
        y.event(0, STORM, 30);
        E.due("the last cell holds", y.floods(0, -1, -1, -1), 0);
        y.event(0, STORM, 24);
        E.due("7 are lost: 23 hold no 24", y.floods(0, -1, -1, -1), 1);
    }

    // ---- plan

    private static void promise14NoSuchAim() {
        E.sentence("NUMBER: there is no such AIM");
        for (int year = 0; year < 3; year++) {
            int which = year;
            E.numberWithin("plan", 0, 99, (x, aim) -> x.plan(aim, which));
        }
    }

    private static void promise14NoSuchYear() {
        E.sentence("YEAR (0 to 2)");
        for (int aim : new int[] {0, 30, 99}) {
            E.numberWithin("plan", 0, 2, (x, year) -> x.plan(aim, year));
        }
        DuneBench x = threeFencesNeeded();
        E.due("year -1", x.plan(74, -1), NUMBER);
        E.due("year 0", x.plan(74, 0), 2);
        E.due("year 2", x.plan(74, 2), 2);
        E.due("year 3", x.plan(74, 3), NUMBER);
    }

    private static void promise14NoPlan() {
        E.sentence("NONE: there is no PLAN");
        DuneBench x = threeFencesNeeded();
        E.planIs(x, 74, 3, 2, 2, 2);
        E.planIs(x, 75, NONE, NONE, NONE, NONE);
        E.planIs(x, 99, NONE, NONE, NONE, NONE);
        for (int year = 0; year < 3; year++) {
            int which = year;
            E.refusedOn("three fences", PlanEdgesTest::threeFencesNeeded, "plan(75)", NONE, y -> y.plan(75, which));
        }
    }

    private static void promise14ItGivesNone() {
        E.sentence("or it gives none");
        DuneBench x = Benches.coast(50, 50, 50);
        x.size(20);
        x.event(0, WIND, 9);
        E.planIs(x, 43, 0, NONE, NONE, NONE);
        E.planIs(x, 44, 1, 1, NONE, NONE);
        E.planIs(x, 58, 1, 2, NONE, NONE);
    }

    private static void promise14FenceAtTheFirstCellIsNeverNeeded() {
        E.sentence("The CELL that THE PLAN for an AIM gives a YEAR.");
        // A fence at cell 0 never holds anything, so it is in no plan that has the fewest.
        DuneBench x = threeFencesNeeded();
        for (int aim = 0; aim <= 74; aim++) {
            for (int year = 0; year < 3; year++) {
                int cell = x.plan(aim, year);
                E.holds("plan(" + aim + ", " + year + ") is 1, 2 or none", cell == NONE || cell == 1 || cell == 2);
            }
        }
    }

    /** Three cells of 50, three years with a wind of 9 each, fences of 20. */
    private static DuneBench threeFencesNeeded() {
        DuneBench x = Benches.coast(50, 50, 50);
        x.size(20);
        x.event(0, WIND, 9);
        x.event(0, YEAR_END, 0);
        x.event(0, WIND, 9);
        x.event(0, YEAR_END, 0);
        x.event(0, WIND, 9);
        return x;
    }

    // ---- fences

    private static void promise15NoSuchAim() {
        E.sentence("NUMBER: there is no such AIM");
        E.numberWithin("fences", 0, 99, DuneBench::fences);
    }

    private static void promise15NoPlan() {
        E.sentence("NONE: there is no PLAN.");
        E.refusedOn("three fences", PlanEdgesTest::threeFencesNeeded, "fences(75)", NONE, x -> x.fences(75));
        DuneBench x = new DuneBench();
        E.due("fences(99) without events", x.fences(99), 0);
        x.event(0, STORM, 1);
        E.due("fences(0) with floods", x.fences(0), NONE);
        x.set(4, 0, 1);
        E.due("fences(1) without", x.fences(1), 0);
        E.due("fences(2)", x.fences(2), NONE);
    }

    private static void promise15HowMany() {
        E.sentence("How many FENCES THE PLAN for an AIM has.");
        DuneBench x = threeFencesNeeded();
        int[] greatestAim = new int[4];
        for (int aim = 0; aim <= 74; aim++) {
            greatestAim[x.fences(aim)] = aim;
        }
        E.due("without a fence", greatestAim[0], x.crest(0, -1, -1, -1));
        E.due("with two", greatestAim[2], 64);
        E.due("with three", greatestAim[3], x.crest(0, 2, 2, 2));
        E.due("fences(65)", x.fences(65), 3);
        E.due("fences(64)", x.fences(64), 2);
    }

    // ---- most

    private static void promise16NoneNotEvenFor0() {
        E.sentence("NONE: there is none (not even for 0)");
        E.refusedOn("a bare coast", () -> bare(STORM, 1), "most()", NONE, DuneBench::most);
        E.due("fences(0)", bare(STORM, 1).fences(0), NONE);
        E.due("0 is an aim", bare(WIND, 1).most(), 0);
        E.due("fences(0)", bare(WIND, 1).fences(0), 0);
    }

    private static DuneBench bare(int kind, int v) {
        DuneBench x = new DuneBench();
        x.event(2, kind, v);
        return x;
    }

    private static void promise16NoWeatherHasEvents() {
        E.sentence("or no WEATHER has EVENTS");
        E.refusedOn("no events", () -> Benches.coast(50, 60, 70), "most()", NONE, DuneBench::most);
        for (int weather = 0; weather < 3; weather++) {
            DuneBench x = Benches.coast(50, 60, 70);
            x.event(weather, YEAR_END, 0);
            E.due("one event", x.most(), 70);
            x.calm(weather);
            E.due("it is calm again", x.most(), NONE);
        }
    }

    private static void promise16TheGreatestAim() {
        E.sentence("The greatest AIM for which there is a PLAN.");
        DuneBench x = Benches.coast(0, 0, 99);
        x.event(0, YEAR_END, 0);
        E.due("99", x.most(), 99);
        E.due("fences(99)", x.fences(99), 0);
        x.event(1, STORM, 4);
        E.due("98", x.most(), 98);
        E.due("fences(98)", x.fences(98), 0);
        E.due("fences(99)", x.fences(99), NONE);
        DuneBench y = threeFencesNeeded();
        E.due("three fences", y.most(), 74);
        DuneBench z = new DuneBench();
        z.event(0, STORM, 1);
        z.set(0, 0, 1);
        E.due("1", z.most(), 1);
    }
}
