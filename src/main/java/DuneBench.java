/** A coast held by fences and grass, the weathers told for it, and surveys of its levels. */
public final class DuneBench {
    public static final int NUMBER = -1;
    public static final int FULL = -2;
    public static final int NONE = -3;

    private static final int LEAST_CELLS = 3;
    private static final int FIRST_CELLS = 5;
    private static final int MOST_CELLS = 7;
    private static final int MOST_HEIGHT = 99;
    private static final int MOST_GRASS = 9;
    private static final int MOST_FENCE = 20;
    private static final int MOST_WIND = 9;
    private static final int MOST_STORM = 99;
    private static final int MOST_NOURISHED = 99;

    private static final int HEIGHT = 0;
    private static final int GRASS = 1;
    private static final int FENCE = 2;
    private static final int KEPT = 3;

    private static final int WIND = 0;
    private static final int STORM = 1;
    private static final int YEAR_END = 2;

    private static final int WEATHERS = 3;
    private static final int MOST_EVENTS = 12;
    private static final int PLANNED_YEARS = 3;
    private static final int FIRST_SIZE = 10;
    private static final int NO_CELL = -1;

    /** A plan's code has three bits a year; the digit 7 is above every cell, so "none" stands behind all. */
    private static final int PLAN_CODES = 512;
    private static final int DIGIT_BITS = 3;
    private static final int NO_FENCE_DIGIT = 7;

    private static final int NO_READING = -1;
    private static final int READ_REFUSED = -9;

    /** Readings lie at most 6 cells apart, so every level is a whole number of 60ths. */
    private static final int SCALE = 60;

    private final Coast shore;
    private final Coast trial;
    private final Coast saved;
    private boolean isSaved;
    private final Weathers weathers;
    private final Survey survey;
    private int fenceSize;
    /** The cell of each year in the plan that is being tried, or NO_CELL. */
    private final int[] planCells;

    public DuneBench() {
        shore = new Coast();
        trial = new Coast();
        saved = new Coast();
        isSaved = false;
        weathers = new Weathers();
        survey = new Survey();
        fenceSize = FIRST_SIZE;
        planCells = new int[PLANNED_YEARS];
    }

    // ---- the coast

    public int coast(int n) {
        if (!isWithin(n, LEAST_CELLS, MOST_CELLS)) {
            return NUMBER;
        }
        shore.renew(n);
        survey.forget();
        return n;
    }

    public int set(int cell, int what, int v) {
        if (!shore.has(cell) || !isWithin(what, HEIGHT, FENCE) || !isWithin(v, 0, mostOf(what))) {
            return NUMBER;
        }
        int[] row = shore.row(what);
        int old = row[cell];
        row[cell] = v;
        return old;
    }

    public int of(int cell, int what) {
        if (!shore.has(cell) || !isWithin(what, HEIGHT, KEPT)) {
            return NUMBER;
        }
        return shore.row(what)[cell];
    }

    public int wind(int strength) {
        return isWithin(strength, 1, MOST_WIND) ? shore.blow(strength) : NUMBER;
    }

    public int storm(int level) {
        return isWithin(level, 1, MOST_STORM) ? shore.surge(level) : NUMBER;
    }

    public int end() {
        return shore.endYear();
    }

    public int nourish(int m) {
        return isWithin(m, 1, MOST_NOURISHED) ? shore.addSand(m) : NUMBER;
    }

    // ---- weathers and plans

    public int event(int weather, int kind, int v) {
        if (!isWeather(weather) || !isEvent(kind, v)) {
            return NUMBER;
        }
        if (weathers.count[weather] >= MOST_EVENTS) {
            return FULL;
        }
        return weathers.add(weather, kind, v);
    }

    public int calm(int weather) {
        if (!isWeather(weather)) {
            return NUMBER;
        }
        int had = weathers.count[weather];
        weathers.count[weather] = 0;
        return had;
    }

    public int size(int v) {
        if (!isWithin(v, 1, MOST_FENCE)) {
            return NUMBER;
        }
        int old = fenceSize;
        fenceSize = v;
        return old;
    }

    public int crest(int weather, int first, int second, int third) {
        if (!tryOut(weather, first, second, third)) {
            return NUMBER;
        }
        return trial.greatestHeight();
    }

    public int floods(int weather, int first, int second, int third) {
        if (!tryOut(weather, first, second, third)) {
            return NUMBER;
        }
        return trial.flooded;
    }

    public int plan(int aim, int year) {
        if (!isAim(aim) || !isWithin(year, 0, PLANNED_YEARS - 1)) {
            return NUMBER;
        }
        if (!findPlan(aim) || planCells[year] == NO_CELL) {
            return NONE;
        }
        return planCells[year];
    }

    public int fences(int aim) {
        if (!isAim(aim)) {
            return NUMBER;
        }
        return findPlan(aim) ? plannedFences() : NONE;
    }

    public int most() {
        if (!weathers.any()) {
            return NONE;
        }
        int lastYear = weathers.lastYear();
        int best = -1;
        for (int code = 0; code < PLAN_CODES; code++) {
            if (choosePlan(code, lastYear)) {
                best = Math.max(best, worstCrest(best + 1));
            }
        }
        return best < 0 ? NONE : best;
    }

    // ---- surveys

    public int read(int cell, int v) {
        if (!shore.has(cell) || !isWithin(v, NO_READING, MOST_HEIGHT)) {
            return READ_REFUSED;
        }
        return survey.put(cell, v);
    }

    public int take() {
        int others = 0;
        for (int cell = 0; cell < shore.cells; cell++) {
            if (survey.put(cell, shore.height[cell]) != shore.height[cell]) {
                others++;
            }
        }
        return others;
    }

    public int level(int cell, int what) {
        if (!shore.has(cell) || !isFractionPart(what)) {
            return NUMBER;
        }
        if (survey.readings() < 1) {
            return NONE;
        }
        return cleared(survey.scaledLevel(cell, shore.cells, NO_CELL), what);
    }

    public int volume(int what) {
        if (!isFractionPart(what)) {
            return NUMBER;
        }
        if (survey.readings() < 1) {
            return NONE;
        }
        return cleared(survey.scaledVolume(shore.cells, NO_CELL), what);
    }

    public int doubt(int what) {
        if (!isFractionPart(what)) {
            return NUMBER;
        }
        if (survey.readings() < 2) {
            return NONE;
        }
        return cleared(survey.scaledDoubt(shore.cells), what);
    }

    public int many(int what) {
        switch (what) {
            case 0:
                return shore.cells;
            case 1:
                return shore.sea;
            case 2:
                return shore.behind;
            case 3:
                return shore.flooded;
            case 4:
                return shore.heightsTogether();
            case 5:
                return shore.greatestHeight();
            case 6:
                return survey.readings();
            default:
                return isWithin(what, 7, 7 + WEATHERS - 1) ? weathers.count[what - 7] : NUMBER;
        }
    }

    // ---- kept

    public int keep() {
        saved.copyFrom(shore);
        isSaved = true;
        return 1;
    }

    public int back() {
        if (!isSaved || saved.cells != shore.cells) {
            return NONE;
        }
        shore.copyFrom(saved);
        return 1;
    }

    // ---- what numbers may be

    private static boolean isWithin(int v, int least, int greatest) {
        return v >= least && v <= greatest;
    }

    private static int mostOf(int what) {
        if (what == HEIGHT) {
            return MOST_HEIGHT;
        }
        return what == GRASS ? MOST_GRASS : MOST_FENCE;
    }

    private static boolean isWeather(int weather) {
        return isWithin(weather, 0, WEATHERS - 1);
    }

    private static boolean isEvent(int kind, int v) {
        switch (kind) {
            case WIND:
                return isWithin(v, 1, MOST_WIND);
            case STORM:
                return isWithin(v, 1, MOST_STORM);
            default:
                return kind == YEAR_END;
        }
    }

    private static boolean isAim(int aim) {
        return isWithin(aim, 0, MOST_HEIGHT);
    }

    private static boolean isFractionPart(int what) {
        return isWithin(what, 0, 1);
    }

    private boolean isCellOrNone(int cell) {
        return cell == NO_CELL || shore.has(cell);
    }

    // ---- plans

    /** Plays a weather on the trial coast; false if an argument is none that may be. */
    private boolean tryOut(int weather, int first, int second, int third) {
        if (!isWeather(weather) || !isCellOrNone(first) || !isCellOrNone(second) || !isCellOrNone(third)) {
            return false;
        }
        planCells[0] = first;
        planCells[1] = second;
        planCells[2] = third;
        play(weather);
        return true;
    }

    private void play(int weather) {
        trial.copyFrom(shore);
        // Only the floods of the weather itself count, not those of the past.
        trial.flooded = 0;
        int year = 0;
        beginYear(year);
        for (int i = 0; i < weathers.count[weather]; i++) {
            int v = weathers.value[weather][i];
            switch (weathers.kind[weather][i]) {
                case WIND:
                    trial.blow(v);
                    break;
                case STORM:
                    trial.surge(v);
                    break;
                default:
                    trial.endYear();
                    year++;
                    beginYear(year);
                    break;
            }
        }
    }

    private void beginYear(int year) {
        if (year < PLANNED_YEARS && trial.has(planCells[year])) {
            trial.fence[planCells[year]] = fenceSize;
        }
    }

    /** Leaves the plan for an aim in planCells; false if there is none. */
    private boolean findPlan(int aim) {
        int lastYear = weathers.lastYear();
        for (int wanted = 0; wanted <= PLANNED_YEARS; wanted++) {
            // Codes rise in the order in which the document prefers plans of as many fences.
            for (int code = 0; code < PLAN_CODES; code++) {
                if (choosePlan(code, lastYear) && plannedFences() == wanted && worstCrest(aim) >= aim) {
                    return true;
                }
            }
        }
        return false;
    }

    /**
     * Puts the plan of a code into planCells; false if it needn't be tried: it names a cell that
     * isn't there, or a fence in a year that no weather comes to (one fence less does the same).
     */
    private boolean choosePlan(int code, int lastYear) {
        for (int year = 0; year < PLANNED_YEARS; year++) {
            int digit = (code >> (DIGIT_BITS * (PLANNED_YEARS - 1 - year))) & NO_FENCE_DIGIT;
            if (digit == NO_FENCE_DIGIT) {
                planCells[year] = NO_CELL;
            } else if (shore.has(digit) && year <= lastYear) {
                planCells[year] = digit;
            } else {
                return false;
            }
        }
        return true;
    }

    private int plannedFences() {
        int planned = 0;
        for (int year = 0; year < PLANNED_YEARS; year++) {
            if (planCells[year] != NO_CELL) {
                planned++;
            }
        }
        return planned;
    }

    /** The least crest that the chosen plan ends with; -1 if houses are flooded or it is below the floor. */
    private int worstCrest(int floor) {
        int worst = MOST_HEIGHT;
        for (int weather = 0; weather < WEATHERS; weather++) {
            if (weathers.count[weather] > 0) {
                play(weather);
                worst = Math.min(worst, trial.greatestHeight());
                if (trial.flooded > 0 || worst < floor) {
                    return -1;
                }
            }
        }
        return worst;
    }

    // ---- fractions

    /** One part of a number of 60ths, cleared. */
    private static int cleared(int scaled, int what) {
        for (int divisor = SCALE; divisor > 1; divisor--) {
            if (SCALE % divisor == 0 && scaled % divisor == 0) {
                return what == 0 ? scaled / divisor : SCALE / divisor;
            }
        }
        return what == 0 ? scaled : SCALE;
    }

    /** Cells from the sea on, and where their sand went. */
    private static final class Coast {
        int cells;
        final int[] height;
        final int[] grass;
        final int[] fence;
        final int[] kept;
        int sea;
        int behind;
        int flooded;

        Coast() {
            height = new int[MOST_CELLS];
            grass = new int[MOST_CELLS];
            fence = new int[MOST_CELLS];
            kept = new int[MOST_CELLS];
            renew(FIRST_CELLS);
        }

        void renew(int n) {
            cells = n;
            for (int cell = 0; cell < MOST_CELLS; cell++) {
                height[cell] = 0;
                grass[cell] = 0;
                fence[cell] = 0;
                kept[cell] = 0;
            }
            sea = 0;
            behind = 0;
            flooded = 0;
        }

        void copyFrom(Coast other) {
            cells = other.cells;
            for (int cell = 0; cell < MOST_CELLS; cell++) {
                height[cell] = other.height[cell];
                grass[cell] = other.grass[cell];
                fence[cell] = other.fence[cell];
                kept[cell] = other.kept[cell];
            }
            sea = other.sea;
            behind = other.behind;
            flooded = other.flooded;
        }

        boolean has(int cell) {
            return cell >= 0 && cell < cells;
        }

        int[] row(int what) {
            switch (what) {
                case HEIGHT:
                    return height;
                case GRASS:
                    return grass;
                case FENCE:
                    return fence;
                default:
                    return kept;
            }
        }

        /** Answers how much comes to lie behind. */
        int blow(int strength) {
            int past = 0;
            for (int from = cells - 1; from >= 0; from--) {
                int left = Math.min(height[from], Math.max(0, strength - grass[from]));
                height[from] -= left;
                for (int cell = from + 1; cell < cells && left > 0; cell++) {
                    left -= hold(cell, left);
                }
                past += left;
            }
            behind += past;
            return past;
        }

        /** Answers how much of the sand that comes a cell keeps. */
        private int hold(int cell, int sand) {
            int unfenced = 1 + 2 * grass[cell];
            int held = Math.min(sand, Math.min(unfenced + fence[cell], MOST_HEIGHT - height[cell]));
            fence[cell] -= Math.max(0, held - unfenced);
            height[cell] += held;
            kept[cell] += held;
            return held;
        }

        /** Answers how many cells are drowned. */
        int surge(int level) {
            for (int cell = 0; cell < cells; cell++) {
                if (height[cell] >= level) {
                    washOut(cell, level / 4);
                    return cell;
                }
                washOut(cell, height[cell] / 2);
                grass[cell] = 0;
                fence[cell] = 0;
            }
            flooded++;
            return cells;
        }

        private void washOut(int cell, int sand) {
            height[cell] -= sand;
            sea += sand;
        }

        /** Answers how many cells have other grass by it. */
        int endYear() {
            int others = 0;
            for (int cell = 0; cell < cells; cell++) {
                int next = nextGrass(grass[cell], kept[cell]);
                if (next != grass[cell]) {
                    others++;
                }
                grass[cell] = next;
                kept[cell] = 0;
            }
            return others;
        }

        private static int nextGrass(int now, int sandKept) {
            if (now == 0 || sandKept > 30) {
                return 0;
            }
            return isWithin(sandKept, 1, 9) ? Math.min(MOST_GRASS, now + 1) : now;
        }

        /** Answers how much comes. */
        int addSand(int sand) {
            int comes = Math.min(sand, MOST_HEIGHT - height[0]);
            height[0] += comes;
            return comes;
        }

        int heightsTogether() {
            int sum = 0;
            for (int cell = 0; cell < cells; cell++) {
                sum += height[cell];
            }
            return sum;
        }

        int greatestHeight() {
            int greatest = 0;
            for (int cell = 0; cell < cells; cell++) {
                greatest = Math.max(greatest, height[cell]);
            }
            return greatest;
        }
    }

    /** The events of each weather. */
    private static final class Weathers {
        final int[] count;
        final int[][] kind;
        final int[][] value;

        Weathers() {
            count = new int[WEATHERS];
            kind = new int[WEATHERS][MOST_EVENTS];
            value = new int[WEATHERS][MOST_EVENTS];
        }

        /** For a weather that isn't full; answers how many events it has then. */
        int add(int weather, int eventKind, int v) {
            int place = count[weather];
            kind[weather][place] = eventKind;
            value[weather][place] = v;
            count[weather] = place + 1;
            return place + 1;
        }

        boolean any() {
            for (int weather = 0; weather < WEATHERS; weather++) {
                if (count[weather] > 0) {
                    return true;
                }
            }
            return false;
        }

        /** The last year that some weather comes to. */
        int lastYear() {
            int last = 0;
            for (int weather = 0; weather < WEATHERS; weather++) {
                last = Math.max(last, yearEnds(weather));
            }
            return last;
        }

        private int yearEnds(int weather) {
            int ends = 0;
            for (int i = 0; i < count[weather]; i++) {
                if (kind[weather][i] == YEAR_END) {
                    ends++;
                }
            }
            return ends;
        }
    }

    /** Readings of cells, with gaps. */
    private static final class Survey {
        final int[] reading;

        Survey() {
            reading = new int[MOST_CELLS];
            forget();
        }

        void forget() {
            for (int cell = 0; cell < MOST_CELLS; cell++) {
                reading[cell] = NO_READING;
            }
        }

        /** Answers what the reading was. */
        int put(int cell, int v) {
            int old = reading[cell];
            reading[cell] = v;
            return old;
        }

        int readings() {
            int known = 0;
            for (int cell = 0; cell < MOST_CELLS; cell++) {
                if (reading[cell] != NO_READING) {
                    known++;
                }
            }
            return known;
        }

        /** The nearest cell from a cell on, by steps of 1 or -1, with a reading other than the missing cell's. */
        private int nearest(int cell, int step, int cells, int missing) {
            int at = cell;
            for (int i = 0; i < MOST_CELLS && at >= 0 && at < cells; i++) {
                if (reading[at] != NO_READING && at != missing) {
                    return at;
                }
                at += step;
            }
            return NO_CELL;
        }

        /** A level in 60ths, as if the missing cell had no reading; 0 without any reading. */
        int scaledLevel(int cell, int cells, int missing) {
            int left = nearest(cell, -1, cells, missing);
            int right = nearest(cell, 1, cells, missing);
            if (left == NO_CELL && right == NO_CELL) {
                return 0;
            }
            if (left == NO_CELL) {
                return SCALE * reading[right];
            }
            if (right == NO_CELL || right <= left) {
                return SCALE * reading[left];
            }
            int part = SCALE / (right - left);
            return part * (reading[left] * (right - cell) + reading[right] * (cell - left));
        }

        int scaledVolume(int cells, int missing) {
            int sum = 0;
            for (int cell = 0; cell < cells; cell++) {
                sum += scaledLevel(cell, cells, missing);
            }
            return sum;
        }

        int scaledDoubt(int cells) {
            int whole = scaledVolume(cells, NO_CELL);
            int greatest = 0;
            for (int cell = 0; cell < cells; cell++) {
                if (reading[cell] != NO_READING) {
                    greatest = Math.max(greatest, Math.abs(scaledVolume(cells, cell) - whole));
                }
            }
            return greatest;
        }
    }
}
