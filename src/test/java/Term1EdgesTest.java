/** Boundary cases of term 1: the coast, winds, storms, the end of a year, nourishing. */
public final class Term1EdgesTest {
    private static final Edges E = new Edges("Term1EdgesTest");
    private static final int HEIGHT = 0;
    private static final int GRASS = 1;
    private static final int FENCE = 2;
    private static final int KEPT = 3;
    private static final int SEA = 1;
    private static final int BEHIND = 2;
    private static final int FLOODED = 3;

    public static void main(String[] args) throws ReflectiveOperationException {
        E.run(Term1EdgesTest.class, 1, 1);
    }

    // ---- the coast

    private static void term1CellsAreThreeToSeven() {
        E.sentence("n 3 to 7");
        for (int n : new int[] {3, 7}) {
            DuneBench x = new DuneBench();
            E.due("coast(" + n + ")", x.coast(n), n);
            E.due("the last cell", x.of(n - 1, HEIGHT), 0);
            E.due("the one behind it", x.of(n, HEIGHT), DuneBench.NUMBER);
        }
        E.numberWithin("coast", 3, 7, DuneBench::coast);
    }

    private static void term1FiveCellsAtFirst() {
        E.sentence("5 at first");
        DuneBench x = new DuneBench();
        E.due("many(0)", x.many(0), 5);
        E.due("of(4, 0)", x.of(4, HEIGHT), 0);
        E.due("of(5, 0)", x.of(5, HEIGHT), DuneBench.NUMBER);
    }

    private static void term1HeightIs0To99() {
        E.sentence("HEIGHT (0 to 99)");
        setWithin(HEIGHT, 99);
    }

    private static void term1GrassIs0To9() {
        E.sentence("GRASS (0 to 9)");
        setWithin(GRASS, 9);
    }

    private static void term1FenceIs0To20() {
        E.sentence("a FENCE (0 to 20");
        setWithin(FENCE, 20);
    }

    private static void setWithin(int what, int greatest) {
        for (int n = 3; n <= 7; n++) {
            DuneBench x = new DuneBench();
            x.coast(n);
            for (int cell = 0; cell < n; cell++) {
                E.due("set to the greatest", x.set(cell, what, greatest), 0);
                E.due("of", x.of(cell, what), greatest);
                E.due("set to 0", x.set(cell, what, 0), greatest);
                E.due("of", x.of(cell, what), 0);
            }
        }
        E.numberWithin("set of the first cell", 0, greatest, (x, v) -> x.set(0, what, v));
        E.numberWithin("set of the last cell", 0, greatest, (x, v) -> x.set(x.many(0) - 1, what, v));
    }

    private static void term1AllIs0AtFirst() {
        E.sentence("all 0 at first");
        DuneBench x = new DuneBench();
        for (int n = 2; n <= 7; n++) {
            // 2 is refused: the coast is the first one still.
            x.coast(n);
            for (int cell = 0; cell < x.many(0); cell++) {
                E.cellIs(x, cell, 0, 0, 0, 0);
            }
        }
    }

    private static void term1NothingLiesElsewhereAtFirst() {
        E.sentence("What lies in THE SEA, and BEHIND the last CELL, and how often HOUSES were FLOODED, is 0 at first.");
        DuneBench x = new DuneBench();
        elsewhere(x, 0, 0, 0);
        x.set(0, HEIGHT, 9);
        x.wind(9);
        x.storm(99);
        x.set(2, HEIGHT, 99);
        x.storm(99);
        elsewhere(x, 24, 5, 1);
        x.coast(3);
        elsewhere(x, 0, 0, 0);
    }

    private static void elsewhere(DuneBench x, int sea, int behind, int flooded) {
        E.due("many(1)", x.many(SEA), sea);
        E.due("many(2)", x.many(BEHIND), behind);
        E.due("many(3)", x.many(FLOODED), flooded);
    }

    // ---- wind

    private static void term1WindIs1To9() {
        E.sentence("WIND of strength w (1 to 9)");
        DuneBench x = Benches.coast(20, 0, 0);
        E.due("wind(1)", x.wind(1), 0);
        E.heightsAre(x, 19, 1, 0);
        DuneBench y = Benches.coast(20, 0, 0);
        E.due("wind(9)", y.wind(9), 7);
        E.heightsAre(y, 11, 1, 1);
        E.numberWithin("wind", 1, 9, DuneBench::wind);
    }

    private static void term1WindGoesFromTheLastCellToTheFirst() {
        E.sentence("CELLS are gone over from the last to the first.");
        DuneBench x = Benches.coast(2, 0, 0);
        E.due("what comes to a cell isn't blown on", x.wind(1), 0);
        E.heightsAre(x, 1, 1, 0);
        DuneBench y = Benches.coast(1, 99, 0);
        E.due("a full cell has lost before anything comes", y.wind(1), 0);
        E.heightsAre(y, 0, 99, 1);
    }

    private static void term1CellLoses0AtLeast() {
        E.sentence("Each LOSES w less its GRASS (0 at least");
        int[][] windGrassLost = {
            {5, 4, 1}, {5, 5, 0}, {5, 6, 0}, {1, 0, 1}, {1, 1, 0}, {1, 9, 0}, {9, 0, 9}, {9, 8, 1}, {9, 9, 0},
        };
        for (int[] row : windGrassLost) {
            DuneBench x = Benches.coast(20, 0, 0);
            x.set(0, GRASS, row[1]);
            x.wind(row[0]);
            E.due("height behind wind " + row[0] + " with grass " + row[1], x.of(0, HEIGHT), 20 - row[2]);
            E.due("what has gone", x.many(4) + x.many(BEHIND), 20);
        }
    }

    private static void term1CellLosesItsHeightAtMost() {
        E.sentence("its HEIGHT at most");
        int[][] heightLeft = {{0, 0}, {1, 0}, {4, 0}, {5, 0}, {6, 1}};
        for (int[] row : heightLeft) {
            DuneBench x = Benches.coast(0, 0, row[0]);
            E.due("wind(5)", x.wind(5), row[0] - row[1]);
            E.heightsAre(x, 0, 0, row[1]);
            DuneBench y = Benches.coast(row[0], 0, 0);
            y.wind(5);
            E.due("of(0, 0)", y.of(0, HEIGHT), row[1]);
        }
    }

    private static void term1CellKeeps1() {
        E.sentence("each KEEPS of what comes as much as it may: 1");
        afterWind(1, 0, 0, 1, 0, 0);
        afterWind(2, 0, 0, 1, 1, 0);
        afterWind(3, 0, 0, 1, 1, 1);
    }

    private static void term1CellKeeps2ForEachGrass() {
        E.sentence("and 2 for each of its GRASS");
        afterWind(3, 1, 0, 3, 0, 0);
        afterWind(4, 1, 0, 3, 1, 0);
        afterWind(9, 3, 0, 7, 1, 1);
        afterWind(9, 4, 0, 9, 0, 0);
        afterWind(9, 9, 0, 9, 0, 0);
    }

    private static void term1CellKeepsWhatItsFenceHolds() {
        E.sentence("and what its FENCE can still hold");
        afterWind(2, 0, 1, 2, 0, 0);
        afterWind(3, 0, 1, 2, 1, 0);
        afterWind(9, 0, 7, 8, 1, 0);
        afterWind(9, 0, 8, 9, 0, 0);
        afterWind(9, 0, 20, 9, 0, 0);
        afterWind(9, 1, 5, 8, 1, 0);
        afterWind(9, 1, 6, 9, 0, 0);
    }

    /** A wind over 30, 0, 0, the middle cell having such grass and fence. */
    private static void afterWind(int wind, int grass, int fence, int middle, int last, int behind) {
        DuneBench x = Benches.coast(30, 0, 0);
        x.set(1, GRASS, grass);
        x.set(1, FENCE, fence);
        E.due("wind(" + wind + ")", x.wind(wind), behind);
        E.heightsAre(x, 30 - wind, middle, last);
        E.due("of(1, 3)", x.of(1, KEPT), middle);
        E.due("of(2, 3)", x.of(2, KEPT), last);
    }

    private static void term1FenceHoldsSoMuchLess() {
        E.sentence("which holds so much less then");
        DuneBench x = Benches.coast(99, 0, 0);
        x.set(1, FENCE, 20);
        int[] left = {12, 4, 0, 0};
        for (int fence : left) {
            x.set(1, HEIGHT, 0);
            x.wind(9);
            E.due("of(1, 2)", x.of(1, FENCE), fence);
        }
        DuneBench y = Benches.coast(99, 0, 0);
        y.set(1, FENCE, 1);
        y.wind(1);
        E.due("nothing is left for it", y.of(1, FENCE), 1);
        y.set(1, HEIGHT, 0);
        y.wind(2);
        E.due("all it can hold", y.of(1, FENCE), 0);
    }

    private static void term1GrassKeepsBeforeTheFence() {
        E.sentence("what the first two may keep they keep first");
        int[][] windGrassFence = {{1, 0, 5}, {2, 0, 4}, {3, 1, 5}, {4, 1, 4}, {5, 2, 5}, {6, 2, 4}, {9, 4, 5}};
        for (int[] row : windGrassFence) {
            DuneBench x = Benches.coast(30, 0, 0);
            x.set(1, GRASS, row[1]);
            x.set(1, FENCE, 5);
            x.wind(row[0]);
            E.cellIs(x, 1, row[0], row[1], row[2], row[0]);
        }
    }

    private static void term1WindFillsTo99() {
        E.sentence("not above a HEIGHT of 99");
        int[][] heightWindKeptPast = {{97, 2, 2, 0}, {97, 3, 2, 1}, {98, 1, 1, 0}, {98, 2, 1, 1}, {99, 1, 0, 1}};
        for (int[] row : heightWindKeptPast) {
            DuneBench x = Benches.coast(30, row[0], 0);
            x.set(1, GRASS, 9);
            x.set(1, FENCE, 20);
            E.due("wind", x.wind(row[1]), 0);
            E.cellIs(x, 1, row[0] + row[2], 9, 20, row[2]);
            E.cellIs(x, 2, row[3], 0, 0, row[3]);
        }
    }

    private static void term1FenceHoldsNothingAbove99() {
        E.sentence("not above a HEIGHT of 99");
        // The middle cell loses 3, and 4, of its 99, so it has room for just as much of what comes.
        DuneBench x = Benches.coast(30, 99, 0);
        x.set(1, GRASS, 1);
        x.set(1, FENCE, 20);
        x.wind(4);
        E.cellIs(x, 1, 99, 1, 20, 3);
        DuneBench y = Benches.coast(30, 99, 0);
        y.set(1, GRASS, 1);
        y.set(1, FENCE, 20);
        y.wind(5);
        E.cellIs(y, 1, 99, 1, 19, 4);
    }

    private static void term1WhatComesPastTheLastLiesBehind() {
        E.sentence("What comes past the last one lies BEHIND.");
        for (int n = 3; n <= 7; n++) {
            DuneBench x = new DuneBench();
            x.coast(n);
            x.set(0, HEIGHT, 50);
            E.due("as much as the cells keep", x.wind(n - 1), 0);
            E.due("many(2)", x.many(BEHIND), 0);
            x.coast(n);
            x.set(0, HEIGHT, 50);
            E.due("one more", x.wind(n), 1);
            E.due("many(2)", x.many(BEHIND), 1);
            x.coast(n);
            x.set(n - 1, HEIGHT, 50);
            E.due("the last cell's own", x.wind(9), 9);
            E.due("of the last cell", x.of(n - 1, HEIGHT), 41);
            E.due("many(2)", x.many(BEHIND), 9);
        }
    }

    // ---- storms

    private static void term1StormIs1To99() {
        E.sentence("A STORM of level l (1 to 99)");
        DuneBench x = Benches.coast(0, 1, 0);
        E.due("storm(1)", x.storm(1), 1);
        DuneBench y = Benches.coast(98, 99, 0);
        E.due("storm(99)", y.storm(99), 1);
        E.numberWithin("storm", 1, 99, DuneBench::storm);
    }

    private static void term1CellBelowIsDrowned() {
        E.sentence("each whose HEIGHT is below l is DROWNED");
        for (int level : new int[] {1, 2, 50, 98, 99}) {
            DuneBench x = Benches.coast(level - 1, level, level - 1);
            E.due("just below", x.storm(level), 1);
            DuneBench y = Benches.coast(level, level - 1, level - 1);
            E.due("as high", y.storm(level), 0);
        }
    }

    private static void term1HalfOfADrownedCell() {
        E.sentence("half of its HEIGHT (the rest of a half stays) goes into THE SEA");
        int[][] heightStays = {{0, 0}, {1, 1}, {2, 1}, {3, 2}, {97, 49}, {98, 49}};
        for (int[] row : heightStays) {
            DuneBench x = Benches.coast(row[0], 99, 0);
            x.storm(99);
            E.heightsAre(x, row[1], 75, 0);
            E.due("many(1)", x.many(SEA), row[0] - row[1] + 24);
        }
    }

    private static void term1DrownedCellHasNoGrassNorFence() {
        E.sentence("its GRASS and FENCE are 0");
        DuneBench x = Benches.coast(29, 30, 29);
        for (int cell = 0; cell < 3; cell++) {
            x.set(cell, GRASS, 9);
            x.set(cell, FENCE, 20);
        }
        x.storm(30);
        E.cellIs(x, 0, 15, 0, 0, 0);
        E.cellIs(x, 1, 23, 9, 20, 0);
        E.cellIs(x, 2, 29, 9, 20, 0);
    }

    private static void term1QuarterOfTheLevel() {
        E.sentence("loses a quarter of l (the rest away) into THE SEA");
        int[][] levelLost = {{1, 0}, {3, 0}, {4, 1}, {7, 1}, {8, 2}, {95, 23}, {96, 24}, {99, 24}};
        for (int[] row : levelLost) {
            DuneBench x = Benches.coast(99, 0, 0);
            x.storm(row[0]);
            E.due("of(0, 0) behind storm " + row[0], x.of(0, HEIGHT), 99 - row[1]);
            E.due("many(1)", x.many(SEA), row[1]);
            DuneBench y = Benches.coast(row[0], 0, 0);
            y.storm(row[0]);
            E.due("of(0, 0) of a cell just as high", y.of(0, HEIGHT), row[0] - row[1]);
        }
    }

    private static void term1StormEndsAtTheFirstHighCell() {
        E.sentence("the storm ends there");
        DuneBench x = Benches.coast(39, 40, 39, 99);
        E.due("storm(40)", x.storm(40), 1);
        E.heightsAre(x, 20, 30, 39, 99);
        E.due("many(1)", x.many(SEA), 29);
    }

    private static void term1HousesAreFlooded() {
        E.sentence("If there is none HOUSES are FLOODED once more.");
        for (int n = 3; n <= 7; n++) {
            DuneBench x = new DuneBench();
            x.coast(n);
            x.set(n - 1, HEIGHT, 40);
            E.due("the last cell is as high", x.storm(40), n - 1);
            E.due("many(3)", x.many(FLOODED), 0);
            x.set(n - 1, HEIGHT, 39);
            E.due("it is just below", x.storm(40), n);
            E.due("many(3)", x.many(FLOODED), 1);
            E.due("once more", x.storm(40), n);
            E.due("many(3)", x.many(FLOODED), 2);
        }
    }

    // ---- the end of a year

    private static void term1GrassGrowsWhere1To9WereKept() {
        E.sentence("a CELL with GRASS that KEPT 1 to 9 since the last YEAR ENDED has 1 more of it");
        grassBehind(4, 0, 4);
        grassBehind(4, 1, 5);
        grassBehind(4, 9, 5);
        grassBehind(4, 10, 4);
    }

    private static void term1CellWithoutGrassGrowsNone() {
        E.sentence("a CELL with GRASS");
        for (int kept : new int[] {0, 1, 9, 10, 30, 31}) {
            grassBehind(0, kept, 0);
        }
        grassBehind(1, 1, 2);
        grassBehind(1, 9, 2);
    }

    private static void term1GrassIs9AtMost() {
        E.sentence("9 at most");
        grassBehind(7, 9, 8);
        grassBehind(8, 9, 9);
        grassBehind(9, 9, 9);
        grassBehind(9, 1, 9);
    }

    private static void term1MoreThan30KeptLeaveNoGrass() {
        E.sentence("one that KEPT more than 30 has none");
        for (int grass : new int[] {1, 8, 9}) {
            grassBehind(grass, 29, grass);
            grassBehind(grass, 30, grass);
            grassBehind(grass, 31, 0);
            grassBehind(grass, 45, 0);
        }
    }

    /** The end of a year in which the middle cell, of such grass, kept so much. */
    private static void grassBehind(int grass, int kept, int next) {
        DuneBench x = Benches.coast(99, 0, 0);
        keepInTheMiddle(x, kept);
        x.set(1, GRASS, grass);
        E.due("of(1, 3)", x.of(1, KEPT), kept);
        E.due("end() with grass " + grass + ", " + kept + " kept", x.end(), grass == next ? 0 : 1);
        E.due("of(1, 1) with grass " + grass + ", " + kept + " kept", x.of(1, GRASS), next);
    }

    /** With grass of 9 a cell loses nothing, and keeps all that a wind brings of the first one. */
    private static void keepInTheMiddle(DuneBench x, int sand) {
        x.set(1, GRASS, 9);
        for (int left = sand; left > 0; left -= 9) {
            x.wind(Math.min(left, 9));
        }
    }

    private static void term1KeptCountsSinceTheLastEnd() {
        E.sentence("since the last YEAR ENDED");
        DuneBench x = Benches.coast(99, 0, 0);
        keepInTheMiddle(x, 9);
        x.set(1, GRASS, 4);
        E.due("of(1, 3)", x.of(1, KEPT), 9);
        E.due("end()", x.end(), 1);
        E.due("of(1, 3)", x.of(1, KEPT), 0);
        keepInTheMiddle(x, 1);
        x.set(1, GRASS, 5);
        E.due("of(1, 3) counts anew", x.of(1, KEPT), 1);
        E.due("end() once more", x.end(), 1);
        E.due("of(1, 1)", x.of(1, GRASS), 6);
        E.due("end() at once", x.end(), 0);
        E.due("of(1, 1)", x.of(1, GRASS), 6);
    }

    // ---- nourishing

    private static void term1NourishingIs1To99() {
        E.sentence("NOURISHING: m (1 to 99)");
        DuneBench x = Benches.coast(0, 0, 0);
        E.due("nourish(1)", x.nourish(1), 1);
        E.heightsAre(x, 1, 0, 0);
        DuneBench y = Benches.coast(0, 0, 0);
        E.due("nourish(99)", y.nourish(99), 99);
        E.heightsAre(y, 99, 0, 0);
        E.numberWithin("nourish", 1, 99, DuneBench::nourish);
    }

    private static void term1NourishingFillsTo99() {
        E.sentence("comes onto CELL 0, not above 99");
        int[][] heightSandComes = {{97, 1, 1}, {97, 2, 2}, {97, 3, 2}, {98, 2, 1}, {99, 1, 0}, {99, 99, 0}, {1, 99, 98}};
        for (int[] row : heightSandComes) {
            DuneBench x = Benches.coast(row[0], 5, 6);
            E.due("nourish(" + row[1] + ")", x.nourish(row[1]), row[2]);
            E.heightsAre(x, row[0] + row[2], 5, 6);
            E.due("nothing of it is kept", x.of(0, KEPT), 0);
            elsewhere(x, 0, 0, 0);
        }
    }
}
