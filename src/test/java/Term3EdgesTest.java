/** Boundary cases of term 3: readings, levels, volume and doubt. */
public final class Term3EdgesTest {
    private static final Edges E = new Edges("Term3EdgesTest");
    private static final int NO_READING = -1;
    private static final int REFUSED = -9;

    public static void main(String[] args) throws ReflectiveOperationException {
        E.run(Term3EdgesTest.class, 3, 3);
    }

    private static void term3ReadingIs0To99() {
        E.sentence("A SURVEY has a READING (0 to 99) of each CELL");
        for (int n = 3; n <= 7; n++) {
            DuneBench x = new DuneBench();
            x.coast(n);
            for (int cell = 0; cell < n; cell++) {
                E.due("read 0", x.read(cell, 0), NO_READING);
                E.due("read 99", x.read(cell, 99), 0);
                E.due("many(6)", x.many(6), cell + 1);
            }
            levelIs(x, n - 1, 99, 1);
        }
        E.numberWithin("read of the first cell", -1, 99, REFUSED, (x, v) -> x.read(0, v));
        E.numberWithin("read of the last cell", -1, 99, REFUSED, (x, v) -> x.read(x.many(0) - 1, v));
    }

    private static void term3NoReadingAtFirst() {
        E.sentence("or none (at first)");
        DuneBench x = new DuneBench();
        E.due("many(6)", x.many(6), 0);
        for (int cell = 0; cell < 5; cell++) {
            E.due("read", x.read(cell, NO_READING), NO_READING);
        }
        E.due("many(6) still", x.many(6), 0);
        E.due("a reading of 0 is one", x.read(0, 0), NO_READING);
        E.due("many(6) then", x.many(6), 1);
        E.due("it is taken away", x.read(0, NO_READING), 0);
        E.due("many(6) at last", x.many(6), 0);
    }

    private static void term3LevelIsTheReading() {
        E.sentence("LEVEL of a CELL: its READING");
        DuneBench x = surveyed(0, 99, 0, 99, 1, 98, 50);
        int[] read = {0, 99, 0, 99, 1, 98, 50};
        for (int cell = 0; cell < 7; cell++) {
            levelIs(x, cell, read[cell], 1);
        }
    }

    private static void term3LevelLiesOnTheLineBetweenTheNearest() {
        E.sentence("on the straight line between the nearest ones on both sides that have one");
        DuneBench x = surveyed(99, 0, NO_READING, 1, NO_READING, NO_READING, 99);
        levelIs(x, 2, 1, 2);
        levelIs(x, 4, 101, 3);
        levelIs(x, 5, 199, 3);
        DuneBench y = surveyed(0, NO_READING, NO_READING, NO_READING, NO_READING, NO_READING, 99);
        levelIs(y, 1, 33, 2);
        levelIs(y, 3, 99, 2);
        levelIs(y, 5, 165, 2);
        DuneBench z = surveyed(1, NO_READING, 0);
        levelIs(z, 1, 1, 2);
        DuneBench u = surveyed(70, NO_READING, NO_READING, 70);
        levelIs(u, 1, 70, 1);
        levelIs(u, 2, 70, 1);
    }

    private static void term3LevelBesideAllReadings() {
        E.sentence("or that of the nearest one, if there is none on the other side");
        DuneBench x = surveyed(NO_READING, NO_READING, 40, NO_READING, 60, NO_READING, NO_READING);
        levelIs(x, 0, 40, 1);
        levelIs(x, 1, 40, 1);
        levelIs(x, 3, 50, 1);
        levelIs(x, 5, 60, 1);
        levelIs(x, 6, 60, 1);
        for (int at = 0; at < 3; at++) {
            DuneBench y = new DuneBench();
            y.coast(3);
            y.read(at, 17);
            for (int cell = 0; cell < 3; cell++) {
                levelIs(y, cell, 17, 1);
            }
        }
    }

    private static void term3VolumeIsAllLevels() {
        E.sentence("VOLUME: all LEVELS together");
        volumeIs(surveyed(0, 0, 0), 0, 1);
        volumeIs(surveyed(0, 0, 1), 1, 1);
        volumeIs(surveyed(99, 99, 99, 99, 99, 99, 99), 693, 1);
        volumeIs(surveyed(1, NO_READING, 0), 3, 2);
        volumeIs(surveyed(1, NO_READING, NO_READING, 0), 2, 1);
        volumeIs(surveyed(NO_READING, 1, NO_READING, 0), 5, 2);
    }

    private static void term3DoubtIsTheGreatestChange() {
        E.sentence("DOUBT: the greatest that VOLUME would change (up or down)");
        // Volume is 3 / 2, and 0 or 3 without the one or the other.
        doubtIs(surveyed(1, NO_READING, 0), 3, 2);
        doubtIs(surveyed(0, NO_READING, 1), 3, 2);
        // Down by 30 without the middle one; up by as much.
        doubtIs(surveyed(10, 40, 10), 30, 1);
        doubtIs(surveyed(40, 10, 40), 30, 1);
        // The first or last one alone.
        doubtIs(surveyed(99, 0, 0), 99, 1);
        doubtIs(surveyed(0, 0, 99), 99, 1);
        doubtIs(surveyed(7, 7, 7), 0, 1);
    }

    private static void term3DoubtLooksAtEachReading() {
        E.sentence("if one READING were missing");
        for (int cell = 0; cell < 7; cell++) {
            DuneBench x = surveyed(0, 0, 0, 0, 0, 0, 0);
            x.read(cell, 8);
            // Without the reading of 8 the volume is 0.
            doubtIs(x, 8, 1);
            volumeIs(x, 8, 1);
            E.due("many(6) is as it was", x.many(6), 7);
        }
    }

    private static void term3VolumeNeedsOneReading() {
        E.sentence("VOLUME needs one READING");
        for (int what = 0; what < 2; what++) {
            int part = what;
            E.refusedOn("no reading", () -> Benches.coast(9, 9, 9), "volume", DuneBench.NONE, x -> x.volume(part));
            E.refusedOn("no reading", () -> Benches.coast(9, 9, 9), "level", DuneBench.NONE, x -> x.level(1, part));
        }
        for (int cell = 0; cell < 3; cell++) {
            DuneBench x = Benches.coast(9, 9, 9);
            x.read(cell, 5);
            volumeIs(x, 15, 1);
            x.read(cell, NO_READING);
            E.due("it is gone", x.volume(0), DuneBench.NONE);
        }
    }

    private static void term3DoubtNeedsTwoReadings() {
        E.sentence("DOUBT two");
        for (int what = 0; what < 2; what++) {
            int part = what;
            E.refusedOn("no reading", () -> Benches.coast(9, 9, 9), "doubt", DuneBench.NONE, x -> x.doubt(part));
            E.refusedOn("one reading", () -> surveyed(NO_READING, 5, NO_READING), "doubt", DuneBench.NONE,
                x -> x.doubt(part));
        }
        doubtIs(surveyed(NO_READING, 5, 5), 0, 1);
        doubtIs(surveyed(NO_READING, 5, 6), 2, 1);
    }

    /** A coast with as many cells as readings are given, -1 being none. */
    private static DuneBench surveyed(int... readings) {
        DuneBench x = new DuneBench();
        x.coast(readings.length);
        for (int cell = 0; cell < readings.length; cell++) {
            x.read(cell, readings[cell]);
        }
        return x;
    }

    private static void levelIs(DuneBench x, int cell, int above, int below) {
        E.due("level(" + cell + ", 0)", x.level(cell, 0), above);
        E.due("level(" + cell + ", 1)", x.level(cell, 1), below);
    }

    private static void volumeIs(DuneBench x, int above, int below) {
        E.due("volume(0)", x.volume(0), above);
        E.due("volume(1)", x.volume(1), below);
    }

    private static void doubtIs(DuneBench x, int above, int below) {
        E.due("doubt(0)", x.doubt(0), above);
        E.due("doubt(1)", x.doubt(1), below);
    }
}
