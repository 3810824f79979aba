/** Promises 22 to 24: many, keep, back. */
public final class KeptTest {
    private static final Check CHECK = new Check("KeptTest");

    public static void main(String[] args) {
        manyTellsCounts();
        sandIsNeverLost();
        backBringsAllOfTheCoast();
        backLeavesTheRest();
        latestIsKept();
        backNeedsAsManyCells();
        CHECK.end();
    }

    private static void manyTellsCounts() {
        DuneBench x = new DuneBench();
        x.coast(3);
        x.set(0, 0, 30);
        x.set(1, 0, 40);
        x.set(2, 0, 20);
        CHECK.due("many(0)", x.many(0), 3);
        CHECK.due("many(4)", x.many(4), 90);
        CHECK.due("many(5)", x.many(5), 40);
        x.wind(9);
        CHECK.due("many(2)", x.many(2), 24);
        x.storm(60);
        CHECK.due("many(1)", x.many(1), 32);
        CHECK.due("many(3)", x.many(3), 1);
        CHECK.due("many(4) later", x.many(4), 34);
        CHECK.due("many(5) later", x.many(5), 16);
        x.read(0, 3);
        x.read(2, 0);
        CHECK.due("many(6)", x.many(6), 2);
        x.event(0, 0, 1);
        x.event(2, 0, 1);
        x.event(2, 0, 1);
        CHECK.due("many(7)", x.many(7), 1);
        CHECK.due("many(8)", x.many(8), 0);
        CHECK.due("many(9)", x.many(9), 2);
        int[] refused = {-1, 10, 11, Integer.MIN_VALUE, Integer.MAX_VALUE};
        for (int what : refused) {
            CHECK.due("many(" + what + ")", x.many(what), DuneBench.NUMBER);
        }
        x.coast(7);
        x.set(6, 0, 99);
        CHECK.due("many(5): the last cell", x.many(5), 99);
        x.set(0, 0, 99);
        CHECK.due("many(4): first and last", x.many(4), 198);
        x.set(6, 0, 0);
        CHECK.due("many(5): the first cell", x.many(5), 99);
    }

    private static void sandIsNeverLost() {
        DuneBench x = new DuneBench();
        x.coast(7);
        int brought = 0;
        for (int i = 0; i < 60; i++) {
            brought += x.nourish(1 + i % 40);
            x.set(i % 7, 1, i % 10);
            x.set((i * 3) % 7, 2, i % 21);
            x.wind(1 + i % 9);
            if (i % 5 == 0) {
                x.storm(1 + i);
            }
            CHECK.due("sand in all", x.many(1) + x.many(2) + x.many(4), brought);
        }
    }

    private static void backBringsAllOfTheCoast() {
        DuneBench x = new DuneBench();
        CHECK.due("back() before keep()", x.back(), DuneBench.NONE);
        x.storm(3);
        for (int cell = 0; cell < 5; cell++) {
            x.set(cell, 0, 40 + cell);
            x.set(cell, 1, 1 + cell);
            x.set(cell, 2, 3 * cell);
        }
        x.wind(8);
        x.storm(43);
        String before = Check.stateOf(x);
        CHECK.due("keep()", x.keep(), 1);
        CHECK.holds("keep changes nothing", before.equals(Check.stateOf(x)));
        for (int i = 0; i < 2; i++) {
            x.wind(9);
            x.storm(99);
            x.end();
            x.nourish(50);
            x.set(4, 2, 20);
            CHECK.due("the coast is another", x.many(3), 2);
            CHECK.due("back()", x.back(), 1);
            CHECK.holds("all is back", before.equals(Check.stateOf(x)));
        }
    }

    private static void backLeavesTheRest() {
        DuneBench x = new DuneBench();
        x.keep();
        x.read(2, 50);
        x.event(0, 0, 3);
        x.size(4);
        CHECK.due("rest: back()", x.back(), 1);
        CHECK.due("rest: many(6)", x.many(6), 1);
        CHECK.due("rest: read", x.read(2, 50), 50);
        CHECK.due("rest: many(7)", x.many(7), 1);
        CHECK.due("rest: size", x.size(1), 4);
    }

    private static void latestIsKept() {
        DuneBench x = new DuneBench();
        x.set(0, 0, 1);
        x.keep();
        x.set(0, 0, 2);
        x.keep();
        x.set(0, 0, 3);
        CHECK.due("latest: back()", x.back(), 1);
        CHECK.due("latest: of(0, 0)", x.of(0, 0), 2);
        x.set(0, 0, 4);
        CHECK.due("latest: back() again", x.back(), 1);
        CHECK.due("latest: of(0, 0) again", x.of(0, 0), 2);
    }

    private static void backNeedsAsManyCells() {
        for (int n = 3; n <= 7; n++) {
            DuneBench x = new DuneBench();
            x.coast(n);
            x.set(n - 1, 0, 60 + n);
            x.keep();
            for (int other = 3; other <= 7; other++) {
                x.coast(other);
                x.set(0, 0, 9);
                CHECK.due("cells: back()", x.back(), other == n ? 1 : DuneBench.NONE);
                CHECK.due("cells: many(0)", x.many(0), other);
                CHECK.due("cells: of(0, 0)", x.of(0, 0), other == n ? 0 : 9);
                CHECK.due("cells: crest", x.many(5), other == n ? 60 + n : 9);
            }
        }
    }
}
