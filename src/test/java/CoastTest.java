/** Promises 1 to 8: a new object, coast, set, of, wind, storm, end, nourish. */
public final class CoastTest {
    private static final Check CHECK = new Check("CoastTest");

    public static void main(String[] args) {
        newObject();
        coastIsNew();
        coastLeavesWeathersSizeAndWhatIsKept();
        setAndOf();
        windGoesOverCells();
        windAndGrass();
        windAndFence();
        windAndTheGreatestHeight();
        windGoesFromTheLastCellToTheFirst();
        stormEndsAtAHighCell();
        stormFloods();
        stormEdges();
        endGrowsGrass();
        endLooksAtWhatWasKept();
        nourish();
        CHECK.end();
    }

    private static void newObject() {
        DuneBench x = new DuneBench();
        CHECK.due("new: many(0)", x.many(0), 5);
        for (int what = 1; what <= 9; what++) {
            CHECK.due("new: many(" + what + ")", x.many(what), 0);
        }
        for (int cell = 0; cell < 5; cell++) {
            for (int what = 0; what <= 3; what++) {
                CHECK.due("new: of(" + cell + ", " + what + ")", x.of(cell, what), 0);
            }
            CHECK.due("new: level", x.level(cell, 0), DuneBench.NONE);
            CHECK.due("new: read", x.read(cell, -1), -1);
        }
        CHECK.due("new: back()", x.back(), DuneBench.NONE);
        CHECK.due("new: most()", x.most(), DuneBench.NONE);
        CHECK.due("new: size(3)", x.size(3), 10);
    }

    private static void coastIsNew() {
        for (int n = 3; n <= 7; n++) {
            DuneBench x = new DuneBench();
            x.set(0, 0, 50);
            x.wind(9);
            x.storm(99);
            for (int cell = 0; cell < 5; cell++) {
                x.set(cell, 1, 2);
                x.set(cell, 2, 7);
                x.read(cell, 12);
            }
            CHECK.due("coast: many(2) before", x.many(2), 5);
            CHECK.due("coast: coast(n)", x.coast(n), n);
            CHECK.due("coast: many(0)", x.many(0), n);
            for (int what = 1; what <= 6; what++) {
                CHECK.due("coast: many(" + what + ")", x.many(what), 0);
            }
            for (int cell = 0; cell < n; cell++) {
                for (int what = 0; what <= 3; what++) {
                    CHECK.due("coast: of(" + cell + ", " + what + ")", x.of(cell, what), 0);
                }
                CHECK.due("coast: read", x.read(cell, 1), -1);
            }
            CHECK.due("coast: of behind the last", x.of(n, 0), DuneBench.NUMBER);
            CHECK.due("coast: of the last", x.of(n - 1, 0), 0);
        }
    }

    private static void coastLeavesWeathersSizeAndWhatIsKept() {
        DuneBench x = new DuneBench();
        x.event(0, 0, 5);
        x.event(2, 1, 5);
        x.event(2, 2, 5);
        x.size(17);
        x.set(2, 0, 33);
        x.keep();
        x.coast(5);
        CHECK.due("coast leaves: many(7)", x.many(7), 1);
        CHECK.due("coast leaves: many(9)", x.many(9), 2);
        CHECK.due("coast leaves: back()", x.back(), 1);
        CHECK.due("coast leaves: of(2, 0)", x.of(2, 0), 33);
        CHECK.due("coast leaves: size(1)", x.size(1), 17);
    }

    private static void setAndOf() {
        int[] greatest = {99, 9, 20};
        for (int n = 3; n <= 7; n++) {
            DuneBench x = new DuneBench();
            x.coast(n);
            for (int cell = 0; cell < n; cell++) {
                for (int what = 0; what < 3; what++) {
                    CHECK.due("set: to the greatest", x.set(cell, what, greatest[what]), 0);
                    CHECK.due("set: to another", x.set(cell, what, cell + what), greatest[what]);
                    CHECK.due("set: one too great", x.set(cell, what, greatest[what] + 1), DuneBench.NUMBER);
                    CHECK.due("set: one too small", x.set(cell, what, -1), DuneBench.NUMBER);
                }
                CHECK.due("set: what 3", x.set(cell, 3, 1), DuneBench.NUMBER);
                CHECK.due("set: what -1", x.set(cell, -1, 1), DuneBench.NUMBER);
            }
            for (int cell = 0; cell < n; cell++) {
                for (int what = 0; what < 3; what++) {
                    CHECK.due("of: what was set", x.of(cell, what), cell + what);
                    CHECK.due("set: to 0", x.set(cell, what, 0), cell + what);
                    CHECK.due("of: 0", x.of(cell, what), 0);
                }
                CHECK.due("of: set keeps nothing", x.of(cell, 3), 0);
                CHECK.due("of: what 4", x.of(cell, 4), DuneBench.NUMBER);
                CHECK.due("of: what -1", x.of(cell, -1), DuneBench.NUMBER);
            }
            CHECK.due("set: cell n", x.set(n, 0, 1), DuneBench.NUMBER);
            CHECK.due("set: cell -1", x.set(-1, 0, 1), DuneBench.NUMBER);
            CHECK.due("of: cell n", x.of(n, 0), DuneBench.NUMBER);
            CHECK.due("of: cell -1", x.of(-1, 0), DuneBench.NUMBER);
        }
    }

    private static void windGoesOverCells() {
        DuneBench x = coastOf(7, 30);
        CHECK.due("over cells: wind(9)", x.wind(9), 3);
        cellIs(x, 0, 21, 0, 0, 0);
        for (int cell = 1; cell < 7; cell++) {
            cellIs(x, cell, 1, 0, 0, 1);
        }
        CHECK.due("over cells: many(2)", x.many(2), 3);
        CHECK.due("over cells: many(1)", x.many(1), 0);
        DuneBench y = coastOf(3, 1);
        CHECK.due("over cells: wind(1)", y.wind(1), 0);
        cellIs(y, 0, 0, 0, 0, 0);
        cellIs(y, 1, 1, 0, 0, 1);
        DuneBench z = coastOf(3, 4);
        CHECK.due("over cells: no more than there is", z.wind(9), 2);
        CHECK.due("over cells: many(4)", z.many(4), 2);
    }

    private static void windAndGrass() {
        DuneBench x = coastOf(3, 20);
        x.set(0, 1, 3);
        CHECK.due("grass: wind(3) takes nothing", x.wind(3), 0);
        cellIs(x, 0, 20, 3, 0, 0);
        CHECK.due("grass: wind(1) takes nothing", x.wind(1), 0);
        cellIs(x, 0, 20, 3, 0, 0);
        CHECK.due("grass: wind(5) takes 2", x.wind(5), 0);
        cellIs(x, 0, 18, 3, 0, 0);
        cellIs(x, 1, 1, 0, 0, 1);
        cellIs(x, 2, 1, 0, 0, 1);
        DuneBench y = coastOf(3, 20);
        y.set(1, 1, 2);
        CHECK.due("grass: a cell keeps 1 and 2 for each", y.wind(9), 3);
        cellIs(y, 1, 5, 2, 0, 5);
        cellIs(y, 2, 1, 0, 0, 1);
    }

    private static void windAndFence() {
        DuneBench x = coastOf(3, 50);
        x.set(1, 2, 4);
        CHECK.due("fence: full", x.wind(9), 3);
        cellIs(x, 1, 5, 0, 0, 5);
        cellIs(x, 2, 1, 0, 0, 1);
        DuneBench y = coastOf(3, 50);
        y.set(1, 2, 20);
        CHECK.due("fence: not full", y.wind(9), 0);
        cellIs(y, 1, 9, 0, 12, 9);
        cellIs(y, 2, 0, 0, 0, 0);
        DuneBench z = coastOf(3, 50);
        z.set(1, 1, 2);
        z.set(1, 2, 5);
        CHECK.due("fence: grass keeps first", z.wind(9), 0);
        cellIs(z, 1, 9, 2, 1, 9);
        CHECK.due("fence: the second wind", z.wind(9), 8);
        cellIs(z, 0, 32, 0, 0, 0);
        cellIs(z, 1, 8, 2, 0, 15);
        cellIs(z, 2, 2, 0, 0, 2);
        CHECK.due("fence: many(2)", z.many(2), 8);
        DuneBench u = coastOf(3, 50);
        u.set(1, 1, 2);
        u.set(1, 2, 5);
        CHECK.due("fence: not touched if grass keeps all", u.wind(5), 0);
        cellIs(u, 1, 5, 2, 5, 5);
    }

    private static void windAndTheGreatestHeight() {
        DuneBench x = coastOf(3, 9);
        x.set(1, 0, 97);
        x.set(1, 1, 9);
        x.set(1, 2, 5);
        CHECK.due("height 99: grass", x.wind(9), 6);
        cellIs(x, 1, 99, 9, 5, 2);
        cellIs(x, 2, 1, 0, 0, 1);
        DuneBench y = coastOf(3, 50);
        y.set(1, 0, 99);
        y.set(1, 1, 1);
        y.set(1, 2, 20);
        CHECK.due("height 99: fence", y.wind(9), 7);
        cellIs(y, 0, 41, 0, 0, 0);
        cellIs(y, 1, 99, 1, 15, 8);
        cellIs(y, 2, 2, 0, 0, 2);
        DuneBench z = coastOf(3, 50);
        z.set(1, 0, 99);
        z.set(1, 1, 9);
        z.set(2, 0, 99);
        z.set(2, 1, 9);
        CHECK.due("height 99: nothing is kept", z.wind(8), 8);
        cellIs(z, 1, 99, 9, 0, 0);
        cellIs(z, 2, 99, 9, 0, 0);
        CHECK.due("height 99: many(2)", z.many(2), 8);
    }

    private static void windGoesFromTheLastCellToTheFirst() {
        DuneBench x = coastOf(3, 1);
        x.set(1, 0, 1);
        x.set(2, 0, 1);
        CHECK.due("order: wind(1)", x.wind(1), 1);
        cellIs(x, 0, 0, 0, 0, 0);
        cellIs(x, 1, 1, 0, 0, 1);
        cellIs(x, 2, 1, 0, 0, 1);
        DuneBench y = coastOf(3, 50);
        y.set(1, 0, 50);
        y.set(2, 0, 50);
        y.set(2, 2, 10);
        CHECK.due("order: what comes of each cell is kept by itself", y.wind(9), 14);
        cellIs(y, 0, 41, 0, 0, 0);
        cellIs(y, 1, 42, 0, 0, 1);
        cellIs(y, 2, 53, 0, 0, 12);
    }

    private static void stormEndsAtAHighCell() {
        DuneBench x = coastOf(3, 7);
        x.set(1, 0, 40);
        x.set(2, 0, 5);
        for (int cell = 0; cell < 3; cell++) {
            x.set(cell, 1, 4);
            x.set(cell, 2, 6);
        }
        CHECK.due("storm ends: storm(40)", x.storm(40), 1);
        cellIs(x, 0, 4, 0, 0, 0);
        cellIs(x, 1, 30, 4, 6, 0);
        cellIs(x, 2, 5, 4, 6, 0);
        CHECK.due("storm ends: many(1)", x.many(1), 13);
        CHECK.due("storm ends: many(2)", x.many(2), 0);
        CHECK.due("storm ends: many(3)", x.many(3), 0);
    }

    private static void stormFloods() {
        DuneBench x = coastOf(3, 7);
        x.set(1, 0, 40);
        x.set(2, 0, 5);
        x.set(2, 1, 4);
        x.set(2, 2, 6);
        CHECK.due("storm floods: storm(41)", x.storm(41), 3);
        cellIs(x, 0, 4, 0, 0, 0);
        cellIs(x, 1, 20, 0, 0, 0);
        cellIs(x, 2, 3, 0, 0, 0);
        CHECK.due("storm floods: many(1)", x.many(1), 25);
        CHECK.due("storm floods: many(3)", x.many(3), 1);
        CHECK.due("storm floods: again", x.storm(99), 3);
        CHECK.due("storm floods: many(3) again", x.many(3), 2);
        CHECK.due("storm floods: many(1) again", x.many(1), 38);
        DuneBench y = coastOf(7, 0);
        CHECK.due("storm floods: seven cells", y.storm(1), 7);
        CHECK.due("storm floods: nothing to take", y.many(1), 0);
    }

    private static void stormEdges() {
        DuneBench x = coastOf(3, 3);
        CHECK.due("storm edges: storm(3)", x.storm(3), 0);
        cellIs(x, 0, 3, 0, 0, 0);
        x.set(0, 0, 4);
        CHECK.due("storm edges: storm(4)", x.storm(4), 0);
        cellIs(x, 0, 3, 0, 0, 0);
        x.set(0, 0, 99);
        CHECK.due("storm edges: storm(99)", x.storm(99), 0);
        cellIs(x, 0, 75, 0, 0, 0);
        CHECK.due("storm edges: many(1)", x.many(1), 25);
        x.set(0, 0, 1);
        x.set(1, 0, 99);
        CHECK.due("storm edges: a height of 1", x.storm(2), 1);
        cellIs(x, 0, 1, 0, 0, 0);
        DuneBench y = coastOf(3, 30);
        y.wind(9);
        CHECK.due("storm edges: storm(99) behind a wind", y.storm(99), 3);
        cellIs(y, 1, 1, 0, 0, 1);
    }

    private static void endGrowsGrass() {
        int[][] windsKeptGrassNext = {
            {0, 0, 0, 3, 3}, {1, 0, 0, 1, 2}, {9, 0, 0, 8, 9}, {5, 5, 0, 8, 8},
            {9, 9, 12, 8, 8}, {9, 9, 13, 8, 0}, {5, 0, 0, 9, 9}, {1, 0, 0, 0, 0},
        };
        for (int[] row : windsKeptGrassNext) {
            DuneBench x = coastOf(3, 99);
            x.set(1, 1, row[3]);
            int kept = 0;
            for (int i = 0; i < 3; i++) {
                kept += blowInto(x, row[i]);
            }
            CHECK.due("end: kept", x.of(1, 3), kept);
            CHECK.due("end: end()", x.end(), row[3] == row[4] ? 0 : 1);
            CHECK.due("end: grass behind " + kept + " kept", x.of(1, 1), row[4]);
            for (int cell = 0; cell < 3; cell++) {
                CHECK.due("end: kept since", x.of(cell, 3), 0);
            }
            CHECK.due("end: once more", x.end(), 0);
            CHECK.due("end: grass once more", x.of(1, 1), row[4]);
        }
    }

    /** Winds that bring so much to cell 1, which keeps all of it. */
    private static int blowInto(DuneBench x, int sand) {
        int left = sand;
        while (left > 0) {
            x.wind(Math.min(left, 9));
            left -= Math.min(left, 9);
        }
        return sand;
    }

    private static void endLooksAtWhatWasKept() {
        DuneBench x = coastOf(7, 99);
        for (int cell = 0; cell < 7; cell++) {
            x.set(cell, 1, cell == 0 ? 0 : 1);
        }
        x.wind(9);
        CHECK.due("end: of(1, 3)", x.of(1, 3), 3);
        CHECK.due("end: of(3, 3)", x.of(3, 3), 3);
        CHECK.due("end: of(4, 3)", x.of(4, 3), 0);
        CHECK.due("end: three cells have more", x.end(), 3);
        CHECK.due("end: of(3, 1)", x.of(3, 1), 2);
        CHECK.due("end: of(4, 1)", x.of(4, 1), 1);
        DuneBench y = coastOf(3, 99);
        y.set(1, 2, 20);
        y.wind(9);
        y.wind(9);
        y.set(1, 2, 20);
        y.wind(9);
        y.wind(9);
        CHECK.due("end: kept without grass", y.of(1, 3), 36);
        CHECK.due("end: nothing to lose", y.end(), 0);
        DuneBench z = coastOf(3, 99);
        z.set(1, 1, 1);
        z.nourish(1);
        CHECK.due("end: what isn't kept counts nothing", z.end(), 0);
    }

    private static void nourish() {
        DuneBench x = coastOf(3, 0);
        CHECK.due("nourish(1)", x.nourish(1), 1);
        CHECK.due("nourish(94)", x.nourish(94), 94);
        CHECK.due("nourish(10)", x.nourish(10), 4);
        CHECK.due("nourish(99)", x.nourish(99), 0);
        cellIs(x, 0, 99, 0, 0, 0);
        cellIs(x, 1, 0, 0, 0, 0);
        CHECK.due("nourish: many(1)", x.many(1), 0);
        CHECK.due("nourish: many(2)", x.many(2), 0);
        DuneBench y = coastOf(7, 0);
        CHECK.due("nourish: all of 99", y.nourish(99), 99);
        cellIs(y, 0, 99, 0, 0, 0);
    }

    private static DuneBench coastOf(int n, int firstHeight) {
        DuneBench x = new DuneBench();
        CHECK.due("coast(" + n + ")", x.coast(n), n);
        CHECK.due("set(0, 0, ..)", x.set(0, 0, firstHeight), 0);
        return x;
    }

    private static void cellIs(DuneBench x, int cell, int height, int grass, int fence, int kept) {
        CHECK.due("of(" + cell + ", 0)", x.of(cell, 0), height);
        CHECK.due("of(" + cell + ", 1)", x.of(cell, 1), grass);
        CHECK.due("of(" + cell + ", 2)", x.of(cell, 2), fence);
        CHECK.due("of(" + cell + ", 3)", x.of(cell, 3), kept);
    }
}
