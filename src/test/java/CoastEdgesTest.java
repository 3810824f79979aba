/** Boundary cases of promises 1 to 8: a new object, coast, set, of, wind, storm, end, nourish. */
public final class CoastEdgesTest {
    private static final Edges E = new Edges("CoastEdgesTest");
    private static final int NUMBER = DuneBench.NUMBER;
    private static final int NONE = DuneBench.NONE;
    private static final int GRASS = 1;
    private static final int FENCE = 2;
    private static final int KEPT = 3;

    public static void main(String[] args) throws ReflectiveOperationException {
        E.run(CoastEdgesTest.class, 1, 8);
    }

    // ---- a new object

    private static void promise1FiveCells() {
        E.sentence("A COAST of five CELLS");
        DuneBench x = new DuneBench();
        E.heightsAre(x, 0, 0, 0, 0, 0);
        E.due("the last cell may be set", x.set(4, 0, 1), 0);
        E.due("one behind it may not", x.set(5, 0, 1), NUMBER);
        E.due("one before the first may not", x.set(-1, 0, 1), NUMBER);
    }

    private static void promise1NoWeathers() {
        E.sentence("no WEATHERS");
        DuneBench x = new DuneBench();
        for (int weather = 0; weather < 3; weather++) {
            E.due("many(7 + w)", x.many(7 + weather), 0);
            E.due("calm", x.calm(weather), 0);
        }
        E.due("most()", x.most(), NONE);
        E.due("fences(99)", x.fences(99), 0);
    }

    private static void promise1NoReadings() {
        E.sentence("no READINGS");
        DuneBench x = new DuneBench();
        E.due("many(6)", x.many(6), 0);
        E.due("volume(0)", x.volume(0), NONE);
        E.due("level(0, 0)", x.level(0, 0), NONE);
        E.due("all five are new", x.take(), 5);
    }

    private static void promise1NothingIsKept() {
        E.sentence("nothing is kept");
        for (int n = 3; n <= 7; n++) {
            DuneBench x = new DuneBench();
            x.coast(n);
            E.due("back()", x.back(), NONE);
        }
        E.refusedOn("a new object", DuneBench::new, "back()", NONE, DuneBench::back);
        DuneBench x = new DuneBench();
        x.keep();
        E.due("back() behind keep()", x.back(), 1);
        E.due("another object keeps nothing by it", new DuneBench().back(), NONE);
    }

    // ---- coast

    private static void promise2AllAsAtFirst() {
        E.sentence("A new COAST of n CELLS, all as at first (the SURVEY, too): n.");
        for (int n = 3; n <= 7; n++) {
            DuneBench x = sevenFullCells();
            E.due("coast(3)", x.coast(3), 3);
            E.due("coast(n)", x.coast(n), n);
            for (int cell = 0; cell < n; cell++) {
                E.cellIs(x, cell, 0, 0, 0, 0);
                E.due("read", x.read(cell, -1), -1);
            }
            for (int what = 1; what <= 6; what++) {
                E.due("many(" + what + ")", x.many(what), 0);
            }
        }
    }

    private static void promise2TheSameNumberOfCells() {
        E.sentence("A new COAST of n CELLS, all as at first (the SURVEY, too): n.");
        DuneBench x = sevenFullCells();
        E.due("coast(7) of seven cells", x.coast(7), 7);
        for (int cell = 0; cell < 7; cell++) {
            E.cellIs(x, cell, 0, 0, 0, 0);
        }
        E.due("many(6)", x.many(6), 0);
        E.due("volume(0)", x.volume(0), NONE);
    }

    private static void promise2CellsThatAreGone() {
        E.sentence("A new COAST of n CELLS");
        DuneBench x = sevenFullCells();
        x.coast(3);
        x.set(0, 0, 50);
        E.due("what lay behind cell 2 keeps nothing", x.wind(9), 7);
        E.due("many(4)", x.many(4), 43);
        E.due("many(5)", x.many(5), 41);
        E.due("storm(50)", x.storm(50), 3);
        E.due("take()", x.take(), 3);
        E.due("end()", x.end(), 0);
    }

    /** Seven cells with something of everything, in the sea and behind, too. */
    private static DuneBench sevenFullCells() {
        DuneBench x = new DuneBench();
        x.coast(7);
        for (int cell = 0; cell < 7; cell++) {
            x.set(cell, 0, 20 + cell);
            x.read(cell, 90 + cell);
        }
        x.storm(99);
        x.wind(9);
        for (int cell = 0; cell < 7; cell++) {
            x.set(cell, GRASS, 9);
            x.set(cell, FENCE, 20);
        }
        return x;
    }

    private static void promise2NIsnt3To7() {
        E.sentence("NUMBER: n isn't 3 to 7.");
        E.due("coast(3)", new DuneBench().coast(3), 3);
        E.due("coast(7)", new DuneBench().coast(7), 7);
        E.numberWithin("coast", 3, 7, DuneBench::coast);
        E.refused("coast(0)", NUMBER, x -> x.coast(0));
        E.refused("coast(-3)", NUMBER, x -> x.coast(-3));
    }

    // ---- set

    private static void promise3NoSuchCell() {
        E.sentence("NUMBER: there is no such CELL");
        for (int what = 0; what < 3; what++) {
            int which = what;
            E.cellWithin("set " + what, 0, NUMBER, (x, cell) -> x.set(cell, which, 1));
        }
    }

    private static void promise3AnotherWhat() {
        E.sentence("another what");
        E.numberWithin("set", 0, 2, (x, what) -> x.set(0, what, 1));
        E.refused("what a cell kept isn't set", NUMBER, x -> x.set(0, 3, 0));
    }

    private static void promise3VIsntAsTold() {
        E.sentence("or v isn't as told");
        int[] greatest = {99, 9, 20};
        for (int what = 0; what < 3; what++) {
            int which = what;
            for (int v = 0; v <= greatest[what]; v++) {
                DuneBench x = new DuneBench();
                E.due("set to " + v, x.set(2, what, v), 0);
                E.due("of", x.of(2, what), v);
                for (int other = 0; other < 3; other++) {
                    E.due("the others stay", x.of(2, other), other == what ? v : 0);
                }
            }
            E.numberWithin("set " + what, 0, greatest[what], (x, v) -> x.set(2, which, v));
        }
    }

    private static void promise3WhatItWas() {
        E.sentence("becomes v: what it was");
        DuneBench x = new DuneBench();
        E.due("0 at first", x.set(4, 0, 99), 0);
        E.due("then 99", x.set(4, 0, 99), 99);
        E.due("the same again", x.set(4, 0, 0), 99);
        E.due("a refused one changed nothing", x.set(4, 0, 100), NUMBER);
        E.due("still 0", x.set(4, 0, 1), 0);
    }

    // ---- of

    private static void promise4NoSuchCell() {
        E.sentence("NUMBER: there is none such");
        for (int what = 0; what < 4; what++) {
            int which = what;
            E.cellWithin("of " + what, 0, NUMBER, (x, cell) -> x.of(cell, which));
        }
    }

    private static void promise4AnotherWhat() {
        E.sentence("another what");
        E.numberWithin("of", 0, 3, (x, what) -> x.of(0, what));
    }

    private static void promise4WhatItKept() {
        E.sentence("3 what it KEPT since the last YEAR ENDED");
        DuneBench x = Benches.coast(20, 0, 0);
        x.wind(1);
        E.due("of(1, 3)", x.of(1, KEPT), 1);
        E.due("of(2, 3)", x.of(2, KEPT), 0);
        x.wind(1);
        E.due("it lost that again, but kept 2", x.of(1, KEPT), 2);
        E.due("of(1, 0)", x.of(1, 0), 1);
        E.due("of(2, 3)", x.of(2, KEPT), 1);
        x.set(1, 0, 99);
        x.nourish(9);
        x.storm(99);
        E.due("of(1, 3) is no height", x.of(1, KEPT), 2);
        E.due("of(0, 3): nourishing isn't kept", x.of(0, KEPT), 0);
        x.end();
        for (int cell = 0; cell < 3; cell++) {
            E.due("of(cell, 3) behind the end", x.of(cell, KEPT), 0);
        }
    }

    // ---- wind

    private static void promise5StrengthIsnt1To9() {
        E.sentence("NUMBER: strength isn't 1 to 9.");
        for (int strength = 1; strength <= 9; strength++) {
            DuneBench x = Benches.coast(0, 0, 50);
            E.due("wind(" + strength + ")", x.wind(strength), strength);
        }
        E.numberWithin("wind", 1, 9, DuneBench::wind);
    }

    private static void promise5HowMuchComesBehind() {
        E.sentence("WIND: how much comes to lie BEHIND by it.");
        DuneBench x = Benches.coast(0, 0, 10);
        E.due("wind(9)", x.wind(9), 9);
        E.due("by this one alone", x.wind(9), 1);
        E.due("nothing is left", x.wind(9), 0);
        E.due("many(2)", x.many(2), 10);
        DuneBench y = Benches.coast(99, 99, 99, 99, 99, 99, 99);
        E.due("the most that may come", y.wind(9), 63 - 21);
        DuneBench z = new DuneBench();
        E.due("a bare coast", z.wind(9), 0);
        E.due("many(2) of it", z.many(2), 0);
    }

    // ---- storm

    private static void promise6LevelIsnt1To99() {
        E.sentence("NUMBER: level isn't 1 to 99.");
        E.due("storm(1)", Benches.coast(0, 1, 0).storm(1), 1);
        E.due("storm(99)", Benches.coast(98, 99, 0).storm(99), 1);
        E.numberWithin("storm", 1, 99, DuneBench::storm);
    }

    private static void promise6HowManyAreDrowned() {
        E.sentence("A STORM: how many CELLS are DROWNED.");
        for (int n = 3; n <= 7; n++) {
            for (int high = 0; high <= n; high++) {
                DuneBench x = new DuneBench();
                x.coast(n);
                x.set(high, 0, 60);
                E.due("cell " + high + " of " + n, x.storm(60), high);
                E.due("many(3)", x.many(3), high == n ? 1 : 0);
            }
        }
    }

    // ---- end

    private static void promise7HowManyHaveOtherGrass() {
        E.sentence("THE YEAR ENDS: how many CELLS have other GRASS by it.");
        E.due("a new coast", new DuneBench().end(), 0);
        DuneBench x = Benches.coast(99, 0, 0, 0, 0, 0, 0);
        for (int cell = 1; cell < 7; cell++) {
            x.set(cell, GRASS, 9);
        }
        x.wind(9);
        E.due("9 stays 9", x.end(), 0);
        E.due("of(1, 1)", x.of(1, GRASS), 9);
        for (int i = 0; i < 4; i++) {
            x.wind(9);
        }
        E.due("of(1, 3)", x.of(1, KEPT), 36);
        E.due("grass that dies is other grass", x.end(), 1);
        E.due("of(1, 1)", x.of(1, GRASS), 0);
        E.due("at once again", x.end(), 0);
    }

    private static void promise7AllCells() {
        E.sentence("how many CELLS have other GRASS by it");
        for (int n = 3; n <= 7; n++) {
            DuneBench x = new DuneBench();
            x.coast(n);
            x.set(0, 0, 50);
            x.wind(n - 1);
            for (int cell = 0; cell < n; cell++) {
                x.set(cell, GRASS, 8);
            }
            E.due("all but the first, which keeps nothing", x.end(), n - 1);
            E.due("the first", x.of(0, GRASS), 8);
            E.due("the second", x.of(1, GRASS), 9);
            E.due("the last", x.of(n - 1, GRASS), 9);
        }
    }

    // ---- nourish

    private static void promise8MIsnt1To99() {
        E.sentence("NUMBER: m isn't 1 to 99.");
        for (int m : new int[] {1, 2, 98, 99}) {
            E.due("nourish(" + m + ")", new DuneBench().nourish(m), m);
        }
        E.numberWithin("nourish", 1, 99, DuneBench::nourish);
    }

    private static void promise8HowMuchComes() {
        E.sentence("NOURISHING: how much comes.");
        DuneBench x = Benches.coast(90, 0, 0);
        E.due("all of 8", x.nourish(8), 8);
        E.due("1 of 99", x.nourish(99), 1);
        E.due("nothing of 1", x.nourish(1), 0);
        E.heightsAre(x, 99, 0, 0);
        E.refusedOn("a full first cell", () -> Benches.coast(99, 0, 0), "nourish(100)", NUMBER, y -> y.nourish(100));
        E.refusedOn("a full first cell", () -> Benches.coast(99, 0, 0), "nourish(0)", NUMBER, y -> y.nourish(0));
    }
}
