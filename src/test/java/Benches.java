/** Objects that tests begin with, and all that can be told of one. */
final class Benches {
    private Benches() {
    }

    /** An object with something of everything but what is kept; weather 2 is full. */
    static DuneBench busy(int n) {
        DuneBench x = new DuneBench();
        x.coast(n);
        x.storm(9);
        for (int cell = 0; cell < n; cell++) {
            x.set(cell, 0, 30 + 5 * cell);
            x.set(cell, 1, cell % 4);
            x.set(cell, 2, 2 * cell);
        }
        x.wind(9);
        x.storm(28);
        x.read(0, 4);
        x.read(n - 1, 77);
        x.size(12);
        x.event(0, 0, 9);
        x.event(0, 2, 0);
        x.event(0, 1, 40);
        for (int i = 0; i < 12; i++) {
            x.event(2, i % 3 == 0 ? 2 : 0, 5);
        }
        return x;
    }

    /** A busy object whose coast is another than the one that it keeps. */
    static DuneBench keeping(int n) {
        DuneBench x = busy(n);
        x.keep();
        x.wind(7);
        x.storm(45);
        x.nourish(20);
        x.set(1, 1, 5);
        return x;
    }

    /** A coast with as many cells as heights are given. */
    static DuneBench coast(int... heights) {
        DuneBench x = new DuneBench();
        x.coast(heights.length);
        for (int cell = 0; cell < heights.length; cell++) {
            x.set(cell, 0, heights[cell]);
        }
        return x;
    }

    /**
     * All that can be told of an object, by calls that change it, too: behind this it is of no
     * more use. It takes some 320 of an object's calls.
     */
    static String wholeOf(DuneBench x) {
        StringBuilder text = new StringBuilder(Check.stateOf(x));
        for (int aim = 0; aim <= 50; aim += 25) {
            text.append(" for ").append(aim).append(": ").append(x.fences(aim));
            for (int year = 0; year < 3; year++) {
                text.append(',').append(x.plan(aim, year));
            }
        }
        text.append(" size ").append(x.size(1)).append(" read");
        int cells = x.many(0);
        for (int cell = 0; cell < cells; cell++) {
            text.append(' ').append(x.read(cell, -1));
        }
        tellKept(x, text);
        tellEvents(x, text);
        return text.toString();
    }

    private static void tellKept(DuneBench x, StringBuilder text) {
        for (int n = 3; n <= 7; n++) {
            x.coast(n);
            text.append(" back ").append(x.back());
            text.append(x.many(4) > 0 ? Check.stateOf(x) : "");
        }
    }

    private static void tellEvents(DuneBench x, StringBuilder text) {
        x.coast(7);
        x.size(13);
        for (int cell = 0; cell < 7; cell++) {
            x.set(cell, 0, 90 - 7 * cell);
            x.set(cell, 1, cell % 3);
        }
        for (int weather = 0; weather < 3; weather++) {
            for (int cell = -1; cell < 7; cell += 2) {
                text.append(' ').append(x.crest(weather, cell, 6, cell));
                text.append('+').append(x.floods(weather, -1, cell, 2));
            }
        }
    }
}
