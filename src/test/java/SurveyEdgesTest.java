/** Boundary cases of promises 17 to 22: read, take, level, volume, doubt, many. */
public final class SurveyEdgesTest {
    private static final Edges E = new Edges("SurveyEdgesTest");
    private static final int NUMBER = DuneBench.NUMBER;
    private static final int NONE = DuneBench.NONE;
    private static final int REFUSED = -9;
    private static final int NO_READING = -1;

    public static void main(String[] args) throws ReflectiveOperationException {
        E.run(SurveyEdgesTest.class, 17, 22);
    }

    // ---- read

    private static void promise17NoSuchCell() {
        E.sentence("NUMBER is answered as -9: there is no such CELL");
        E.cellWithin("read of 50", 0, REFUSED, (x, cell) -> x.read(cell, 50));
        E.cellWithin("read of none", 0, REFUSED, (x, cell) -> x.read(cell, NO_READING));
    }

    private static void promise17VIsntMinus1To99() {
        E.sentence("or v isn't -1 to 99");
        E.numberWithin("read", -1, 99, REFUSED, (x, v) -> x.read(1, v));
        E.refused("read of -9", REFUSED, x -> x.read(1, -9));
        E.refused("both are none that may be", REFUSED, x -> x.read(7, 100));
    }

    private static void promise17WhatItWas() {
        E.sentence("A READING (-1: none): what it was (-1: none).");
        DuneBench x = new DuneBench();
        E.due("none before none", x.read(4, NO_READING), NO_READING);
        E.due("none before 0", x.read(4, 0), NO_READING);
        E.due("0 before 99", x.read(4, 99), 0);
        E.due("99 before a refused one", x.read(4, 100), REFUSED);
        E.due("99 still", x.read(4, NO_READING), 99);
        E.due("none again", x.read(4, NO_READING), NO_READING);
        E.due("many(6)", x.many(6), 0);
    }

    // ---- take

    private static void promise18HowManyAreOthers() {
        E.sentence("how many READINGS are others by it (one that wasn't there, too)");
        for (int n = 3; n <= 7; n++) {
            DuneBench x = new DuneBench();
            x.coast(n);
            E.due("none was there", x.take(), n);
            E.due("none is other", x.take(), 0);
            x.read(n - 1, NO_READING);
            E.due("one wasn't there", x.take(), 1);
            x.read(0, 1);
            E.due("one is other", x.take(), 1);
            x.set(0, 0, 99);
            x.set(n - 1, 0, 1);
            E.due("two heights are", x.take(), 2);
            E.due("many(6)", x.many(6), n);
            E.due("the first", x.read(0, 0), 99);
            E.due("the last", x.read(n - 1, 0), 1);
        }
    }

    private static void promise18AHeightOf0IsAReading() {
        E.sentence("The READING of each CELL becomes its HEIGHT");
        DuneBench x = new DuneBench();
        x.read(2, 0);
        E.due("0 was 0", x.take(), 4);
        E.due("volume(0)", x.volume(0), 0);
        E.due("volume(1)", x.volume(1), 1);
        x.set(3, 0, 50);
        E.due("a height alone is no reading", x.volume(0), 0);
        E.due("one is other", x.take(), 1);
        E.due("heights stay", x.of(3, 0), 50);
        E.due("volume(0)", x.volume(0), 50);
    }

    // ---- level

    private static void promise19NoSuchCell() {
        E.sentence("NUMBER: there is none such");
        E.cellWithin("level(.., 0)", 0, NUMBER, (x, cell) -> x.level(cell, 0));
        E.cellWithin("level(.., 1)", 0, NUMBER, (x, cell) -> x.level(cell, 1));
    }

    private static void promise19AnotherWhat() {
        E.sentence("another what");
        E.numberWithin("level", 0, 1, (x, what) -> x.level(1, what));
    }

    private static void promise19NoReadings() {
        E.sentence("NONE: there are no READINGS.");
        for (int cell = 0; cell < 3; cell++) {
            int which = cell;
            E.refusedOn("no readings", () -> Benches.coast(1, 2, 3), "level", NONE, x -> x.level(which, 0));
            DuneBench x = Benches.coast(1, 2, 3);
            x.read(cell, 0);
            E.due("one reading", x.level(0, 0), 0);
            E.due("one reading", x.level(2, 1), 1);
        }
    }

    private static void promise19Cleared() {
        E.sentence("what = 0 above, 1 below the line, cleared");
        int[][] lastAboveBelow = {
            {1, 1, 6}, {2, 1, 3}, {3, 1, 2}, {4, 2, 3}, {5, 5, 6}, {6, 1, 1}, {7, 7, 6}, {9, 3, 2}, {98, 49, 3}, {99, 33, 2},
        };
        for (int[] row : lastAboveBelow) {
            DuneBench x = new DuneBench();
            x.coast(7);
            x.read(0, 0);
            x.read(6, row[0]);
            E.due("above, up to " + row[0], x.level(1, 0), row[1]);
            E.due("below, up to " + row[0], x.level(1, 1), row[2]);
        }
    }

    private static void promise19ZeroIs0Of1() {
        E.sentence("(0 / 1 if it is 0)");
        for (int gap = 1; gap <= 6; gap++) {
            DuneBench x = new DuneBench();
            x.coast(7);
            x.read(0, 0);
            x.read(gap, 0);
            for (int cell = 0; cell < 7; cell++) {
                E.due("above", x.level(cell, 0), 0);
                E.due("below", x.level(cell, 1), 1);
            }
            E.due("volume above", x.volume(0), 0);
            E.due("volume below", x.volume(1), 1);
            E.due("doubt above", x.doubt(0), 0);
            E.due("doubt below", x.doubt(1), 1);
        }
    }

    // ---- volume

    private static void promise20AnotherWhat() {
        E.sentence("NUMBER: another what");
        E.numberWithin("volume", 0, 1, DuneBench::volume);
    }

    private static void promise20None() {
        E.sentence("VOLUME likewise. NUMBER: another what; NONE.");
        E.refusedOn("no readings", () -> Benches.coast(1, 2, 3), "volume(0)", NONE, x -> x.volume(0));
        E.refusedOn("no readings", () -> Benches.coast(1, 2, 3), "volume(1)", NONE, x -> x.volume(1));
        DuneBench x = Benches.coast(1, 2, 3);
        x.read(2, 99);
        E.due("one reading", x.volume(0), 297);
        E.due("one reading", x.volume(1), 1);
    }

    private static void promise20Cleared() {
        E.sentence("VOLUME likewise.");
        DuneBench x = new DuneBench();
        x.coast(7);
        x.read(1, 0);
        x.read(3, 1);
        x.read(6, 0);
        // 0 + 0 + 1/2 + 1 + 2/3 + 1/3 + 0.
        E.due("above", x.volume(0), 5);
        E.due("below", x.volume(1), 2);
        x.read(5, 0);
        x.read(1, 1);
        x.read(3, NO_READING);
        // 1 + 1 + 3/4 + 1/2 + 1/4 + 0 + 0.
        E.due("above", x.volume(0), 7);
        E.due("below", x.volume(1), 2);
    }

    // ---- doubt

    private static void promise21AnotherWhat() {
        E.sentence("NUMBER: another what");
        E.numberWithin("doubt", 0, 1, DuneBench::doubt);
    }

    private static void promise21FewerThanTwoReadings() {
        E.sentence("NONE: there are fewer than two READINGS.");
        E.refusedOn("no readings", () -> Benches.coast(1, 2, 3), "doubt(0)", NONE, x -> x.doubt(0));
        E.refusedOn("no readings", () -> Benches.coast(1, 2, 3), "doubt(1)", NONE, x -> x.doubt(1));
        for (int cell = 0; cell < 3; cell++) {
            int which = cell;
            E.refusedOn("reading of " + cell, () -> read(which), "doubt(0)", NONE, x -> x.doubt(0));
            E.refusedOn("reading of " + cell, () -> read(which), "doubt(1)", NONE, x -> x.doubt(1));
        }
        DuneBench x = read(0);
        x.read(2, 99);
        E.due("two readings", x.doubt(0), 141);
        E.due("two readings", x.doubt(1), 1);
        x.read(0, NO_READING);
        E.due("one again", x.doubt(0), NONE);
    }

    private static DuneBench read(int cell) {
        DuneBench x = new DuneBench();
        x.coast(3);
        x.read(cell, 5);
        return x;
    }

    private static void promise21Cleared() {
        E.sentence("DOUBT likewise.");
        DuneBench x = new DuneBench();
        x.coast(7);
        for (int cell = 0; cell < 7; cell++) {
            x.read(cell, 0);
        }
        x.read(3, 1);
        E.due("above", x.doubt(0), 1);
        E.due("below", x.doubt(1), 1);
        x.read(2, NO_READING);
        x.read(1, NO_READING);
        // 1/3 and 2/3 beside the 1; 2 are lost without it.
        E.due("above", x.doubt(0), 2);
        E.due("below", x.doubt(1), 1);
        x.read(4, NO_READING);
        E.due("above", x.doubt(0), 5);
        E.due("below", x.doubt(1), 2);
    }

    // ---- many

    private static void promise22AnotherWhat() {
        E.sentence("NUMBER: another what.");
        E.numberWithin("many", 0, 9, DuneBench::many);
        // What wraps around to a weather, were 7 + w counted with ever greater numbers.
        E.refused("many(7 + 3)", NUMBER, x -> x.many(10));
        E.refused("many of the least number and 6", NUMBER, x -> x.many(Integer.MIN_VALUE + 6));
        E.refused("many of the least number and 7", NUMBER, x -> x.many(Integer.MIN_VALUE + 7));
    }

    private static void promise22HowMany() {
        E.sentence("How many: what = 0 CELLS");
        for (int n = 3; n <= 7; n++) {
            DuneBench x = new DuneBench();
            x.coast(n);
            E.due("cells", x.many(0), n);
            for (int cell = 0; cell < n; cell++) {
                x.set(cell, 0, 99);
            }
            E.due("heights together", x.many(4), 99 * n);
            E.due("crest", x.many(5), 99);
            x.take();
            E.due("readings", x.many(6), n);
            E.due("wind", x.wind(1), 1);
            E.due("behind", x.many(2), 1);
            E.due("heights together", x.many(4), 99 * n - 1);
        }
    }

    private static void promise22EventsOfAWeather() {
        E.sentence("7 + w: EVENTS of WEATHER w");
        DuneBench x = new DuneBench();
        int[] events = {12, 0, 1};
        for (int weather = 0; weather < 3; weather++) {
            for (int i = 0; i < events[weather]; i++) {
                x.event(weather, 0, 1);
            }
        }
        for (int weather = 0; weather < 3; weather++) {
            E.due("many(7 + " + weather + ")", x.many(7 + weather), events[weather]);
        }
        E.due("many(6)", x.many(6), 0);
        E.due("many(10)", x.many(10), NUMBER);
    }

    private static void promise22TheCrest() {
        E.sentence("5 THE CREST");
        for (int n = 3; n <= 7; n++) {
            for (int cell = 0; cell < n; cell++) {
                DuneBench x = new DuneBench();
                x.coast(n);
                E.due("0", x.many(5), 0);
                x.set(cell, 0, 1);
                E.due("1", x.many(5), 1);
            }
        }
    }
}
