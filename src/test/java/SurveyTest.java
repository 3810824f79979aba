/** Promises 17 to 21: read, take, level, volume, doubt. */
public final class SurveyTest {
    private static final Check CHECK = new Check("SurveyTest");

    public static void main(String[] args) {
        readings();
        takeReadsHeights();
        noReading();
        oneReading();
        twoReadings();
        threeReadings();
        levelsAreCleared();
        levelsOfEachGap();
        doubtGoesUpAndDown();
        everyCellRead();
        CHECK.end();
    }

    private static void readings() {
        for (int n = 3; n <= 7; n++) {
            DuneBench x = new DuneBench();
            x.coast(n);
            for (int cell = 0; cell < n; cell++) {
                CHECK.due("read: 0", x.read(cell, 0), -1);
                CHECK.due("read: 99", x.read(cell, 99), 0);
                CHECK.due("read: refused 100", x.read(cell, 100), -9);
                CHECK.due("read: refused -2", x.read(cell, -2), -9);
                CHECK.due("read: many(6)", x.many(6), cell + 1);
            }
            CHECK.due("read: cell n", x.read(n, 1), -9);
            CHECK.due("read: cell -1", x.read(-1, 1), -9);
            CHECK.due("read: far cells", x.read(Integer.MAX_VALUE, -1), -9);
            CHECK.due("read: none", x.read(n - 1, -1), 99);
            CHECK.due("read: none again", x.read(n - 1, -1), -1);
            CHECK.due("read: many(6) less", x.many(6), n - 1);
            CHECK.due("read: heights are as they were", x.many(4), 0);
        }
    }

    private static void takeReadsHeights() {
        DuneBench x = new DuneBench();
        x.coast(4);
        x.set(0, 0, 5);
        x.set(1, 0, 99);
        CHECK.due("take: all are new", x.take(), 4);
        CHECK.due("take: none is other", x.take(), 0);
        CHECK.due("take: many(6)", x.many(6), 4);
        CHECK.due("take: volume", x.volume(0), 104);
        x.set(2, 0, 1);
        x.read(3, -1);
        CHECK.due("take: one other, one that wasn't there", x.take(), 2);
        CHECK.due("take: read", x.read(2, 7), 1);
        CHECK.due("take: read", x.read(3, 7), 0);
        CHECK.due("take: heights stay", x.of(2, 0), 1);
        DuneBench y = new DuneBench();
        y.coast(7);
        CHECK.due("take: seven heights of 0", y.take(), 7);
        CHECK.due("take: many(6)", y.many(6), 7);
    }

    private static void noReading() {
        DuneBench x = new DuneBench();
        for (int what = 0; what < 2; what++) {
            CHECK.due("no reading: level", x.level(4, what), DuneBench.NONE);
            CHECK.due("no reading: volume", x.volume(what), DuneBench.NONE);
            CHECK.due("no reading: doubt", x.doubt(what), DuneBench.NONE);
        }
        CHECK.due("no reading: no such cell is told first", x.level(5, 0), DuneBench.NUMBER);
        CHECK.due("no reading: no such cell -1", x.level(-1, 0), DuneBench.NUMBER);
        CHECK.due("no reading: level what", x.level(0, 2), DuneBench.NUMBER);
        CHECK.due("no reading: volume what", x.volume(2), DuneBench.NUMBER);
        CHECK.due("no reading: volume what -1", x.volume(-1), DuneBench.NUMBER);
        CHECK.due("no reading: doubt what", x.doubt(2), DuneBench.NUMBER);
        CHECK.due("no reading: doubt what -1", x.doubt(-1), DuneBench.NUMBER);
        x.read(1, 1);
        x.read(1, -1);
        CHECK.due("no reading any more", x.volume(0), DuneBench.NONE);
    }

    private static void oneReading() {
        for (int at = 0; at < 7; at++) {
            DuneBench x = new DuneBench();
            x.coast(7);
            x.read(at, 99);
            for (int cell = 0; cell < 7; cell++) {
                levelIs(x, cell, 99, 1);
            }
            volumeIs(x, 693, 1);
            CHECK.due("one reading: doubt(0)", x.doubt(0), DuneBench.NONE);
            CHECK.due("one reading: doubt(1)", x.doubt(1), DuneBench.NONE);
            CHECK.due("one reading: doubt(2)", x.doubt(2), DuneBench.NUMBER);
            x.read(at, 0);
            levelIs(x, 3, 0, 1);
            volumeIs(x, 0, 1);
        }
    }

    private static void twoReadings() {
        DuneBench x = new DuneBench();
        x.coast(7);
        x.read(1, 10);
        x.read(4, 0);
        levelIs(x, 0, 10, 1);
        levelIs(x, 1, 10, 1);
        levelIs(x, 2, 20, 3);
        levelIs(x, 3, 10, 3);
        levelIs(x, 4, 0, 1);
        levelIs(x, 5, 0, 1);
        levelIs(x, 6, 0, 1);
        volumeIs(x, 30, 1);
        doubtIs(x, 40, 1);
        CHECK.due("two: level(7, 0)", x.level(7, 0), DuneBench.NUMBER);
        CHECK.due("two: level(0, -1)", x.level(0, -1), DuneBench.NUMBER);
    }

    private static void threeReadings() {
        DuneBench x = new DuneBench();
        x.coast(7);
        x.read(1, 10);
        x.read(4, 0);
        x.read(6, 7);
        levelIs(x, 5, 7, 2);
        levelIs(x, 6, 7, 1);
        volumeIs(x, 81, 2);
        doubtIs(x, 30, 1);
        x.read(1, 3);
        // Volume 6 + 2 + 1 + 0 + 7/2 + 7; without the reading of 4: 6 + 19/5 + 23/5 + 27/5 + 31/5 + 7.
        volumeIs(x, 39, 2);
        doubtIs(x, 27, 2);
    }

    private static void levelsAreCleared() {
        DuneBench x = new DuneBench();
        x.coast(7);
        x.read(0, 0);
        x.read(6, 3);
        int[][] levels = {{0, 1}, {1, 2}, {1, 1}, {3, 2}, {2, 1}, {5, 2}, {3, 1}};
        for (int cell = 0; cell < 7; cell++) {
            levelIs(x, cell, levels[cell][0], levels[cell][1]);
        }
        volumeIs(x, 21, 2);
    }

    private static void levelsOfEachGap() {
        int[][] above = {{}, {}, {1}, {1, 2}, {1, 1, 3}, {1, 2, 3, 4}, {1, 1, 1, 2, 5}};
        int[][] below = {{}, {}, {2}, {3, 3}, {4, 2, 4}, {5, 5, 5, 5}, {6, 3, 2, 3, 6}};
        for (int gap = 2; gap <= 6; gap++) {
            for (int from = 0; from + gap < 7; from++) {
                DuneBench up = new DuneBench();
                up.coast(7);
                up.read(from, 0);
                up.read(from + gap, 1);
                DuneBench down = new DuneBench();
                down.coast(7);
                down.read(from, 1);
                down.read(from + gap, 0);
                for (int i = 1; i < gap; i++) {
                    levelIs(up, from + i, above[gap][i - 1], below[gap][i - 1]);
                    levelIs(down, from + gap - i, above[gap][i - 1], below[gap][i - 1]);
                }
            }
        }
    }

    private static void doubtGoesUpAndDown() {
        DuneBench x = new DuneBench();
        x.coast(3);
        x.read(0, 99);
        x.read(2, 0);
        volumeIs(x, 297, 2);
        doubtIs(x, 297, 2);
        x.read(1, 99);
        // Without the reading of 2 the volume goes up by 99, without that of 1 down by 99/2.
        doubtIs(x, 99, 1);
        x.read(0, 0);
        x.read(1, 40);
        x.read(2, 0);
        doubtIs(x, 40, 1);
        x.read(1, 0);
        doubtIs(x, 0, 1);
        x.read(0, 13);
        doubtIs(x, 13, 1);
        x.read(0, 0);
        x.read(2, 17);
        doubtIs(x, 17, 1);
        x.read(0, 50);
        x.read(1, 50);
        x.read(2, 50);
        doubtIs(x, 0, 1);
        volumeIs(x, 150, 1);
    }

    private static void everyCellRead() {
        DuneBench x = new DuneBench();
        x.coast(7);
        int[] read = {99, 98, 0, 1, 50, 49, 99};
        for (int cell = 0; cell < 7; cell++) {
            x.read(cell, read[cell]);
        }
        for (int cell = 0; cell < 7; cell++) {
            levelIs(x, cell, read[cell], 1);
        }
        volumeIs(x, 396, 1);
        // Each one missing: 1, 97/2, 99/2, 24, 25, 51/2, 50.
        doubtIs(x, 50, 1);
    }

    private static void levelIs(DuneBench x, int cell, int above, int below) {
        CHECK.due("level(" + cell + ", 0)", x.level(cell, 0), above);
        CHECK.due("level(" + cell + ", 1)", x.level(cell, 1), below);
    }

    private static void volumeIs(DuneBench x, int above, int below) {
        CHECK.due("volume(0)", x.volume(0), above);
        CHECK.due("volume(1)", x.volume(1), below);
    }

    private static void doubtIs(DuneBench x, int above, int below) {
        CHECK.due("doubt(0)", x.doubt(0), above);
        CHECK.due("doubt(1)", x.doubt(1), below);
    }
}
