import java.math.BigInteger;
import java.util.ArrayList;
import java.util.Comparator;
import java.util.HashMap;
import java.util.List;
import java.util.Map;

/**
 * The document said once more, in another way than DuneBench says it: sand goes grain by grain,
 * plans are all listed and sorted, levels are fractions of their own.
 */
final class Reference {
    private static final int NUMBER = -1;
    private static final int FULL = -2;
    private static final int NONE = -3;

    private static final class Cell {
        int height;
        int grass;
        int fence;
        int kept;

        Cell copy() {
            Cell cell = new Cell();
            cell.height = height;
            cell.grass = grass;
            cell.fence = fence;
            cell.kept = kept;
            return cell;
        }
    }

    private static final class Shore {
        final List<Cell> cells = new ArrayList<>();
        int sea;
        int behind;
        int flooded;

        static Shore of(int n) {
            Shore shore = new Shore();
            for (int i = 0; i < n; i++) {
                shore.cells.add(new Cell());
            }
            return shore;
        }

        Shore copy() {
            Shore shore = new Shore();
            for (Cell cell : cells) {
                shore.cells.add(cell.copy());
            }
            shore.sea = sea;
            shore.behind = behind;
            shore.flooded = flooded;
            return shore;
        }

        /** Each grain by itself: of one gust a cell keeps 1 + 2 * grass grains for nothing, then by its fence. */
        int wind(int strength) {
            int before = behind;
            for (int from = cells.size() - 1; from >= 0; from--) {
                Cell source = cells.get(from);
                Map<Cell, Integer> free = new HashMap<>();
                int grains = 0;
                while (grains + source.grass < strength && source.height > 0) {
                    source.height--;
                    grains++;
                }
                for (; grains > 0; grains--) {
                    grain(from + 1, free);
                }
            }
            return behind - before;
        }

        private void grain(int from, Map<Cell, Integer> free) {
            for (Cell cell : cells.subList(from, cells.size())) {
                int used = free.getOrDefault(cell, 0);
                boolean freely = used < 1 + 2 * cell.grass;
                if (cell.height < 99 && (freely || cell.fence > 0)) {
                    if (freely) {
                        free.put(cell, used + 1);
                    } else {
                        cell.fence--;
                    }
                    cell.height++;
                    cell.kept++;
                    return;
                }
            }
            behind++;
        }

        int storm(int level) {
            int drowned = 0;
            for (Cell cell : cells) {
                if (cell.height >= level) {
                    int taken = (level - level % 4) / 4;
                    cell.height -= taken;
                    sea += taken;
                    return drowned;
                }
                drowned++;
                int stays = (cell.height + 1) / 2;
                sea += cell.height - stays;
                cell.height = stays;
                cell.grass = 0;
                cell.fence = 0;
            }
            flooded++;
            return drowned;
        }

        int end() {
            int others = 0;
            for (Cell cell : cells) {
                int old = cell.grass;
                if (old > 0 && cell.kept > 0 && cell.kept < 10 && old < 9) {
                    cell.grass = old + 1;
                } else if (cell.kept > 30) {
                    cell.grass = 0;
                }
                others += old == cell.grass ? 0 : 1;
                cell.kept = 0;
            }
            return others;
        }

        int crest() {
            return cells.stream().mapToInt(c -> c.height).max().orElse(0);
        }
    }

    private Shore shore = Shore.of(5);
    private Shore saved;
    private int size = 10;
    private final List<List<int[]>> weathers = List.of(new ArrayList<>(), new ArrayList<>(), new ArrayList<>());
    private final Map<Integer, Integer> readings = new HashMap<>();

    private boolean noCell(int cell) {
        return cell < 0 || cell >= shore.cells.size();
    }

    int coast(int n) {
        if (n < 3 || n > 7) {
            return NUMBER;
        }
        shore = Shore.of(n);
        readings.clear();
        return n;
    }

    int set(int cell, int what, int v) {
        if (noCell(cell) || v < 0) {
            return NUMBER;
        }
        Cell c = shore.cells.get(cell);
        int old = of(cell, what);
        if (what == 0 && v <= 99) {
            c.height = v;
        } else if (what == 1 && v <= 9) {
            c.grass = v;
        } else if (what == 2 && v <= 20) {
            c.fence = v;
        } else {
            return NUMBER;
        }
        return old;
    }

    int of(int cell, int what) {
        if (noCell(cell) || what < 0 || what > 3) {
            return NUMBER;
        }
        Cell c = shore.cells.get(cell);
        return List.of(c.height, c.grass, c.fence, c.kept).get(what);
    }

    int wind(int strength) {
        return strength < 1 || strength > 9 ? NUMBER : shore.wind(strength);
    }

    int storm(int level) {
        return level < 1 || level > 99 ? NUMBER : shore.storm(level);
    }

    int end() {
        return shore.end();
    }

    int nourish(int m) {
        if (m < 1 || m > 99) {
            return NUMBER;
        }
        Cell c = shore.cells.get(0);
        int old = c.height;
        c.height = Math.min(99, old + m);
        return c.height - old;
    }

    int event(int weather, int kind, int v) {
        boolean wind = kind == 0 && v >= 1 && v <= 9;
        boolean storm = kind == 1 && v >= 1 && v <= 99;
        if (weather < 0 || weather > 2 || !(wind || storm || kind == 2)) {
            return NUMBER;
        }
        if (weathers.get(weather).size() == 12) {
            return FULL;
        }
        weathers.get(weather).add(new int[] {kind, v});
        return weathers.get(weather).size();
    }

    int calm(int weather) {
        if (weather < 0 || weather > 2) {
            return NUMBER;
        }
        int had = weathers.get(weather).size();
        weathers.get(weather).clear();
        return had;
    }

    int size(int v) {
        if (v < 1 || v > 20) {
            return NUMBER;
        }
        int old = size;
        size = v;
        return old;
    }

    private boolean noTry(int weather, int... cells) {
        for (int cell : cells) {
            if (cell != -1 && noCell(cell)) {
                return true;
            }
        }
        return weather < 0 || weather > 2;
    }

    private Shore after(int weather, int... plan) {
        Shore end = shore.copy();
        end.flooded = 0;
        int year = 0;
        boolean begins = true;
        for (int[] event : weathers.get(weather)) {
            if (begins && year < 3 && plan[year] >= 0) {
                end.cells.get(plan[year]).fence = size;
            }
            begins = event[0] == 2;
            if (event[0] == 0) {
                end.wind(event[1]);
            } else if (event[0] == 1) {
                end.storm(event[1]);
            } else {
                end.end();
                year++;
            }
        }
        return end;
    }

    int crest(int weather, int first, int second, int third) {
        return noTry(weather, first, second, third) ? NUMBER : after(weather, first, second, third).crest();
    }

    int floods(int weather, int first, int second, int third) {
        return noTry(weather, first, second, third) ? NUMBER : after(weather, first, second, third).flooded;
    }

    private static int fencesOf(int[] plan) {
        int fences = 0;
        for (int cell : plan) {
            fences += cell >= 0 ? 1 : 0;
        }
        return fences;
    }

    private List<int[]> plansByPreference() {
        List<int[]> plans = new ArrayList<>();
        int n = shore.cells.size();
        for (int a = -1; a < n; a++) {
            for (int b = -1; b < n; b++) {
                for (int c = -1; c < n; c++) {
                    plans.add(new int[] {a, b, c});
                }
            }
        }
        Comparator<int[]> order = Comparator.comparingInt(Reference::fencesOf);
        for (int year = 0; year < 3; year++) {
            int y = year;
            order = order.thenComparingInt(p -> p[y] < 0 ? 1000 : p[y]);
        }
        plans.sort(order);
        return plans;
    }

    /** Whether houses stay dry; the least crest is put into worst[0]. */
    private boolean dry(int[] plan, int[] worst) {
        worst[0] = 99;
        for (int weather = 0; weather < 3; weather++) {
            if (!weathers.get(weather).isEmpty()) {
                Shore end = after(weather, plan);
                if (end.flooded > 0) {
                    return false;
                }
                worst[0] = Math.min(worst[0], end.crest());
            }
        }
        return true;
    }

    private int[] thePlan(int aim) {
        int[] worst = new int[1];
        for (int[] plan : plansByPreference()) {
            if (dry(plan, worst) && worst[0] >= aim) {
                return plan;
            }
        }
        return null;
    }

    int plan(int aim, int year) {
        if (aim < 0 || aim > 99 || year < 0 || year > 2) {
            return NUMBER;
        }
        int[] plan = thePlan(aim);
        return plan == null || plan[year] < 0 ? NONE : plan[year];
    }

    int fences(int aim) {
        if (aim < 0 || aim > 99) {
            return NUMBER;
        }
        int[] plan = thePlan(aim);
        return plan == null ? NONE : fencesOf(plan);
    }

    int most() {
        if (weathers.stream().allMatch(List::isEmpty)) {
            return NONE;
        }
        int best = NONE;
        int[] worst = new int[1];
        for (int[] plan : plansByPreference()) {
            if (dry(plan, worst)) {
                best = Math.max(best, worst[0]);
            }
        }
        return best;
    }

    int read(int cell, int v) {
        if (noCell(cell) || v < -1 || v > 99) {
            return -9;
        }
        Integer old = v < 0 ? readings.remove(cell) : readings.put(cell, v);
        return old == null ? -1 : old;
    }

    int take() {
        int others = 0;
        for (int cell = 0; cell < shore.cells.size(); cell++) {
            int height = shore.cells.get(cell).height;
            others += read(cell, height) == height ? 0 : 1;
        }
        return others;
    }

    private record Fraction(BigInteger above, BigInteger below) {
        static Fraction of(long above, long below) {
            return new Fraction(BigInteger.valueOf(above), BigInteger.valueOf(below));
        }

        Fraction plus(Fraction other) {
            return new Fraction(above.multiply(other.below).add(other.above.multiply(below)),
                below.multiply(other.below));
        }

        Fraction apart(Fraction other) {
            Fraction sum = plus(new Fraction(other.above.negate(), other.below));
            return new Fraction(sum.above.abs(), sum.below);
        }

        boolean exceeds(Fraction other) {
            return above.multiply(other.below).compareTo(other.above.multiply(below)) > 0;
        }

        int part(int what) {
            BigInteger common = above.gcd(below);
            return (what == 0 ? above : below).divide(common).intValueExact();
        }
    }

    private static Fraction levelIn(Map<Integer, Integer> known, int cell) {
        Integer left = known.keySet().stream().filter(c -> c <= cell).max(Integer::compare).orElse(null);
        Integer right = known.keySet().stream().filter(c -> c >= cell).min(Integer::compare).orElse(null);
        if (left == null || right == null) {
            return Fraction.of(known.get(left == null ? right : left), 1);
        }
        if (left.equals(right)) {
            return Fraction.of(known.get(left), 1);
        }
        long rise = (long) (known.get(right) - known.get(left)) * (cell - left);
        return Fraction.of(known.get(left), 1).plus(Fraction.of(rise, right - left));
    }

    private Fraction volumeIn(Map<Integer, Integer> known) {
        Fraction sum = Fraction.of(0, 1);
        for (int cell = 0; cell < shore.cells.size(); cell++) {
            sum = sum.plus(levelIn(known, cell));
        }
        return sum;
    }

    int level(int cell, int what) {
        if (noCell(cell) || what < 0 || what > 1) {
            return NUMBER;
        }
        return readings.isEmpty() ? NONE : levelIn(readings, cell).part(what);
    }

    int volume(int what) {
        if (what < 0 || what > 1) {
            return NUMBER;
        }
        return readings.isEmpty() ? NONE : volumeIn(readings).part(what);
    }

    int doubt(int what) {
        if (what < 0 || what > 1) {
            return NUMBER;
        }
        if (readings.size() < 2) {
            return NONE;
        }
        Fraction whole = volumeIn(readings);
        Fraction doubt = Fraction.of(0, 1);
        for (Integer cell : readings.keySet()) {
            Map<Integer, Integer> fewer = new HashMap<>(readings);
            fewer.remove(cell);
            Fraction change = volumeIn(fewer).apart(whole);
            doubt = change.exceeds(doubt) ? change : doubt;
        }
        return doubt.part(what);
    }

    int many(int what) {
        if (what < 0 || what > 9) {
            return NUMBER;
        }
        int heights = shore.cells.stream().mapToInt(c -> c.height).sum();
        int[] counts = {shore.cells.size(), shore.sea, shore.behind, shore.flooded, heights, shore.crest(),
            readings.size(), weathers.get(0).size(), weathers.get(1).size(), weathers.get(2).size()};
        return counts[what];
    }

    int keep() {
        saved = shore.copy();
        return 1;
    }

    int back() {
        if (saved == null || saved.cells.size() != shore.cells.size()) {
            return NONE;
        }
        shore = saved.copy();
        return 1;
    }
}
