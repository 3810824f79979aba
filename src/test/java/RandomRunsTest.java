import java.util.Random;

/** Runs of calls drawn by fixed seeds, each answered as the reference answers it. */
public final class RandomRunsTest {
    private static final Check CHECK = new Check("RandomRunsTest");
    private static final int CALLS = 512;

    private final Random draw;
    private final DuneBench x = new DuneBench();
    private final Reference r = new Reference();
    private final String name;

    private RandomRunsTest(long seed) {
        draw = new Random(seed);
        name = "seed " + seed + ": ";
    }

    public static void main(String[] args) {
        long seeds = args.length > 1 ? Long.parseLong(args[1]) : 150;
        for (long seed = 1; seed <= seeds; seed++) {
            RandomRunsTest run = new RandomRunsTest(seed);
            int kind = (int) (seed % 3);
            for (int i = 0; i < CALLS; i++) {
                run.call(kind);
            }
        }
        CHECK.end();
    }

    /** A number from least to greatest, now and then one beside them or far away. */
    private int number(int least, int greatest) {
        switch (draw.nextInt(40)) {
            case 0:
                return least - 1;
            case 1:
                return greatest + 1;
            case 2:
                return draw.nextBoolean() ? draw.nextInt() : least;
            case 3:
                return greatest;
            default:
                return least + draw.nextInt(greatest - least + 1);
        }
    }

    private int cell() {
        return number(0, x.many(0) - 1);
    }

    private int cellOrNone() {
        return number(-1, x.many(0) - 1);
    }

    private void call(int kind) {
        int which = draw.nextInt(100);
        if (which < 2) {
            coast();
        } else if (kind == 0 ? which < 70 : which < 35) {
            shoreCall();
        } else if (kind == 1 ? which < 90 : which < 78) {
            weatherCall();
        } else {
            surveyCall();
        }
    }

    private void coast() {
        if (draw.nextInt(4) == 0) {
            int n = number(3, 7);
            due("coast(" + n + ")", x.coast(n), r.coast(n));
        } else if (draw.nextBoolean()) {
            due("keep()", x.keep(), r.keep());
        } else {
            due("back()", x.back(), r.back());
        }
    }

    private void shoreCall() {
        int a = cell();
        switch (draw.nextInt(9)) {
            case 0:
            case 1:
            case 2:
                set(a);
                break;
            case 3:
                int what = number(0, 3);
                due("of(" + a + ", " + what + ")", x.of(a, what), r.of(a, what));
                break;
            case 4:
                int w = number(1, 9);
                due("wind(" + w + ")", x.wind(w), r.wind(w));
                break;
            case 5:
                int l = number(1, draw.nextBoolean() ? 99 : 20);
                due("storm(" + l + ")", x.storm(l), r.storm(l));
                break;
            case 6:
                due("end()", x.end(), r.end());
                break;
            case 7:
                int m = number(1, 99);
                due("nourish(" + m + ")", x.nourish(m), r.nourish(m));
                break;
            default:
                int count = number(0, 9);
                due("many(" + count + ")", x.many(count), r.many(count));
                break;
        }
    }

    private void set(int cell) {
        int what = number(0, 2);
        int[] greatest = {99, 9, 20};
        int v = number(0, what >= 0 && what < 3 ? greatest[what] : 5);
        due("set(" + cell + ", " + what + ", " + v + ")", x.set(cell, what, v), r.set(cell, what, v));
    }

    private void weatherCall() {
        int weather = number(0, 2);
        int aim = number(0, 99);
        switch (draw.nextInt(16)) {
            case 0:
                due("calm(" + weather + ")", x.calm(weather), r.calm(weather));
                break;
            case 1:
                int v = number(1, 20);
                due("size(" + v + ")", x.size(v), r.size(v));
                break;
            case 2:
            case 3:
            case 4:
                tryOut(weather);
                break;
            case 5:
                planNearMost();
                break;
            case 6:
                due("fences(" + aim + ")", x.fences(aim), r.fences(aim));
                break;
            case 7:
                int year = number(0, 2);
                due("plan(" + aim + ", " + year + ")", x.plan(aim, year), r.plan(aim, year));
                break;
            default:
                event(weather);
                break;
        }
    }

    private void event(int weather) {
        int kind = draw.nextInt(3) == 0 ? number(0, 2) : 0;
        int v = kind == 0 ? number(1, 9) : number(1, 60);
        due("event(" + weather + ", " + kind + ", " + v + ")", x.event(weather, kind, v), r.event(weather, kind, v));
    }

    private void tryOut(int weather) {
        int a = cellOrNone();
        int b = cellOrNone();
        int c = cellOrNone();
        String cells = "(" + weather + ", " + a + ", " + b + ", " + c + ")";
        due("crest" + cells, x.crest(weather, a, b, c), r.crest(weather, a, b, c));
        due("floods" + cells, x.floods(weather, a, b, c), r.floods(weather, a, b, c));
    }

    /** The aims a little below the greatest one are those that need fences. */
    private void planNearMost() {
        int most = r.most();
        due("most()", x.most(), most);
        int aim = most - draw.nextInt(12);
        due("fences(" + aim + ")", x.fences(aim), r.fences(aim));
        for (int year = 0; year < 3; year++) {
            due("plan(" + aim + ", " + year + ")", x.plan(aim, year), r.plan(aim, year));
        }
    }

    private void surveyCall() {
        int a = cell();
        int what = number(0, 1);
        switch (draw.nextInt(7)) {
            case 0:
            case 1:
                int v = draw.nextBoolean() ? -1 : number(-1, 99);
                due("read(" + a + ", " + v + ")", x.read(a, v), r.read(a, v));
                break;
            case 2:
                if (draw.nextInt(6) == 0) {
                    due("take()", x.take(), r.take());
                }
                break;
            case 3:
                due("level(" + a + ", " + what + ")", x.level(a, what), r.level(a, what));
                break;
            case 4:
                due("volume(" + what + ")", x.volume(what), r.volume(what));
                break;
            case 5:
                due("doubt(" + what + ")", x.doubt(what), r.doubt(what));
                break;
            default:
                due("many(6)", x.many(6), r.many(6));
                break;
        }
    }

    private void due(String call, int got, int want) {
        CHECK.due(name + call, got, want);
    }
}
