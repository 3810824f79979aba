/** Boundary cases of promises 23 and 24: keep, back. */
public final class KeptEdgesTest {
    private static final Edges E = new Edges("KeptEdgesTest");
    private static final int NONE = DuneBench.NONE;
    private static final int GRASS = 1;
    private static final int FENCE = 2;

    public static void main(String[] args) throws ReflectiveOperationException {
        E.run(KeptEdgesTest.class, 23, 24);
    }

    private static void promise23AllOfTheCoastIsKept() {
        E.sentence("THE COAST (with THE SEA, BEHIND, HOUSES, what CELLS KEPT) is kept: 1.");
        for (int n = 3; n <= 7; n++) {
            DuneBench x = storied(n);
            String before = Check.stateOf(x);
            E.due("keep()", x.keep(), 1);
            E.holds("keep changes nothing", before.equals(Check.stateOf(x)));
            for (int cell = 0; cell < n; cell++) {
                x.set(cell, 0, 99);
                x.set(cell, GRASS, 0);
                x.set(cell, FENCE, 20);
            }
            x.storm(99);
            x.set(0, 0, 1);
            x.wind(9);
            x.storm(90);
            x.end();
            E.holds("all is another", !before.equals(Check.stateOf(x)));
            E.due("back()", x.back(), 1);
            E.holds("all is back", before.equals(Check.stateOf(x)));
        }
    }

    private static void promise23ANewCoastIsKept() {
        E.sentence("THE COAST (with THE SEA, BEHIND, HOUSES, what CELLS KEPT) is kept: 1.");
        DuneBench x = new DuneBench();
        E.due("keep() of nothing", x.keep(), 1);
        x.nourish(40);
        x.wind(9);
        x.storm(99);
        E.due("back()", x.back(), 1);
        for (int cell = 0; cell < 5; cell++) {
            E.cellIs(x, cell, 0, 0, 0, 0);
        }
        for (int what = 1; what <= 5; what++) {
            E.due("many(" + what + ")", x.many(what), 0);
        }
    }

    private static void promise23TheCoastAlone() {
        E.sentence("THE COAST (with THE SEA, BEHIND, HOUSES, what CELLS KEPT) is kept");
        DuneBench x = new DuneBench();
        x.read(0, 9);
        x.event(0, 0, 1);
        x.size(3);
        x.keep();
        x.read(0, -1);
        x.read(4, 8);
        x.event(0, 0, 2);
        x.event(1, 0, 2);
        x.size(4);
        E.due("back()", x.back(), 1);
        E.due("readings stay: the first", x.read(0, -1), -1);
        E.due("readings stay: the last", x.read(4, -1), 8);
        E.due("events stay", x.many(7), 2);
        E.due("events stay", x.many(8), 1);
        E.due("size stays", x.size(4), 4);
    }

    private static void promise24WhatWasKeptLatest() {
        E.sentence("It becomes what was kept latest (which stays): 1.");
        DuneBench x = new DuneBench();
        for (int height = 1; height <= 3; height++) {
            x.set(0, 0, height);
            E.due("keep()", x.keep(), 1);
        }
        for (int i = 0; i < 3; i++) {
            x.set(0, 0, 50 + i);
            E.due("back()", x.back(), 1);
            E.due("of(0, 0)", x.of(0, 0), 3);
            E.due("back() at once", x.back(), 1);
            E.due("of(0, 0)", x.of(0, 0), 3);
        }
    }

    private static void promise24KeptOfOneLengthAlone() {
        E.sentence("It becomes what was kept latest");
        DuneBench x = new DuneBench();
        x.set(0, 0, 5);
        x.keep();
        x.coast(6);
        x.set(0, 0, 6);
        x.keep();
        x.coast(5);
        E.due("what was kept before is gone", x.back(), NONE);
        E.due("of(0, 0)", x.of(0, 0), 0);
        x.coast(6);
        E.due("back()", x.back(), 1);
        E.due("of(0, 0)", x.of(0, 0), 6);
    }

    private static void promise24NothingIsKept() {
        E.sentence("NONE: nothing is kept");
        for (int n = 3; n <= 7; n++) {
            int cells = n;
            E.refusedOn("nothing kept of " + n, () -> Benches.busy(cells), "back()", NONE, DuneBench::back);
            E.due("behind keep()", keptAndRenewed(n, n).back(), 1);
        }
    }

    private static void promise24AnotherNumberOfCells() {
        E.sentence("or THE COAST has another number of CELLS");
        for (int kept = 3; kept <= 7; kept++) {
            for (int now = 3; now <= 7; now++) {
                int a = kept;
                int b = now;
                if (a == b) {
                    DuneBench x = keptAndRenewed(a, b);
                    E.due("as many cells", x.back(), 1);
                    E.due("the last one is back", x.of(a - 1, 0), 60);
                } else {
                    E.refusedOn(a + " kept, now " + b, () -> keptAndRenewed(a, b), "back()", NONE, DuneBench::back);
                }
            }
        }
    }

    private static DuneBench keptAndRenewed(int kept, int now) {
        DuneBench x = new DuneBench();
        x.coast(kept);
        x.set(kept - 1, 0, 60);
        x.keep();
        x.coast(now);
        x.set(0, 0, 30);
        return x;
    }

    /** A coast with something of everything, in the sea, behind and flooded, too. */
    private static DuneBench storied(int n) {
        DuneBench x = new DuneBench();
        x.coast(n);
        for (int cell = 0; cell < n; cell++) {
            x.set(cell, 0, 40 + cell);
        }
        x.storm(60);
        x.wind(9);
        for (int cell = 0; cell < n; cell++) {
            x.set(cell, GRASS, cell + 1);
            x.set(cell, FENCE, 2 * cell + 1);
        }
        return x;
    }
}
