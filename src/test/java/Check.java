/** Counts the answers that are not as due; a test's main ends with end(). */
final class Check {
    private final String test;
    private int looked;
    private int wrong;

    Check(String test) {
        this.test = test;
    }

    void due(String call, long got, long want) {
        looked++;
        if (got != want) {
            wrong++;
            System.out.println(test + ": " + call + " answered " + got + ", due is " + want);
        }
    }

    void holds(String what, boolean so) {
        looked++;
        if (!so) {
            wrong++;
            System.out.println(test + ": doesn't hold: " + what);
        }
    }

    void end() {
        System.out.println(test + ": " + looked + " looked at, " + wrong + " wrong");
        if (wrong != 0 || looked == 0) {
            System.exit(1);
        }
    }

    /** All that calls without effect tell of an object, as one text. */
    static String stateOf(DuneBench x) {
        StringBuilder text = new StringBuilder();
        for (int what = 0; what <= 9; what++) {
            text.append("many").append(what).append('=').append(x.many(what)).append(' ');
        }
        int cells = x.many(0);
        for (int cell = 0; cell < cells; cell++) {
            for (int what = 0; what <= 3; what++) {
                text.append(x.of(cell, what)).append(',');
            }
            text.append(x.level(cell, 0)).append('/').append(x.level(cell, 1)).append(' ');
        }
        text.append("volume ").append(x.volume(0)).append('/').append(x.volume(1));
        text.append(" doubt ").append(x.doubt(0)).append('/').append(x.doubt(1));
        for (int weather = 0; weather < 3; weather++) {
            for (int cell = -1; cell < cells; cell++) {
                text.append(' ').append(x.crest(weather, cell, -1, cell));
                text.append('+').append(x.floods(weather, -1, cell, -1));
            }
        }
        text.append(" most ").append(x.most());
        return text.toString();
    }
}
