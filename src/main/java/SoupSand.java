/**
 * Wet ground that loses its hold as the earth shakes. DOC.md tells every promise; words in capitals
 * there (COLUMN, LAYER, RUN, CHOICE ..) are the names of things here.
 */
public final class SoupSand {
    public static final int NONE = -1, UNKNOWN = -1001, OUTSIDE = -1002, NOT = -1003, FULL = -1004, QUARREL = -1005;

    private static final int COLUMNS = 6;
    private static final int LAYERS = 6;
    private static final int VALUES = 3;
    private static final int CHOICES = 729;
    private static final int SHAKES = 6;
    private static final int BEATS = 30;
    private static final int STEPS = 60;
    private static final int WORDS = 16;
    private static final int HOUSES = 8;
    private static final int TANKS = 8;
    private static final int WORKS = 6;
    private static final int SETS = 64;
    private static final int BYTES = 200;
    private static final int CLAUSES = 12;
    private static final int LET_GO = 1000;

    private final Trial trial;
    private final Ground ground;
    private final Shakes shakes;
    private final Rules rules;
    private final Words words;
    private final Houses houses;
    private final Tanks tanks;
    private final Works works;
    private final Survey survey;
    private final Slips slips;
    private final Reader reader;

    public SoupSand() {
        trial = new Trial();
        ground = trial.ground;
        shakes = trial.shakes;
        rules = trial.rules;
        words = new Words();
        houses = new Houses();
        tanks = new Tanks();
        works = new Works();
        survey = new Survey();
        slips = new Slips();
        reader = new Reader();
    }

    // ---- columns, shakes

    public int column(int c, int what, int v) {
        if (!ground.hasColumn(c)) return UNKNOWN;
        if (beyond(what, 0, 1) || beyond(v, 0, what == 0 ? 999 : 400)) return OUTSIDE;
        int[] row = what == 0 ? ground.top : ground.water;
        int was = row[c];
        row[c] = v;
        words.forget();
        return was;
    }

    public int layer(int c, int kind, int thick, int loose) {
        if (!ground.hasColumn(c)) return UNKNOWN;
        if (beyond(kind, 0, 3) || beyond(thick, 1, 60) || beyond(loose, 0, 100)) return OUTSIDE;
        if (ground.layers[c] >= LAYERS) return FULL;
        words.forget();
        return ground.addLayer(c, kind, thick, loose);
    }

    public int loose(int c, int k, int value, int weight) {
        if (!ground.hasLayer(c, k)) return UNKNOWN;
        if (beyond(value, 0, 100) || beyond(weight, 1, 9)) return OUTSIDE;
        if (ground.hasValue(c, k, value)) return NOT;
        if (ground.values[c * LAYERS + k] >= VALUES) return FULL;
        words.forget();
        return ground.addValue(c, k, value, weight);
    }

    public int about(int c, int k, int what) {
        if (!ground.hasLayer(c, k)) return UNKNOWN;
        switch (what) {
            case 0: return ground.kind[c * LAYERS + k];
            case 1: return ground.thick[c * LAYERS + k];
            case 2: return ground.values[c * LAYERS + k];
            case 3: return ground.depthOf(c, k);
            case 4: return ground.isWet(c, k) ? 1 : 0;
            case 5: return ground.holdOf(c, k, rules);
            default: return OUTSIDE;
        }
    }

    public int shake(int share) {
        if (beyond(share, 0, 1000)) return OUTSIDE;
        if (shakes.count >= SHAKES) return FULL;
        return shakes.addShake(share);
    }

    public int beat(int q, int strength) {
        if (!shakes.hasShake(q)) return UNKNOWN;
        if (beyond(strength, 0, 999)) return OUTSIDE;
        if (shakes.beats[q] >= BEATS) return FULL;
        words.forget();
        return shakes.addBeat(q, strength);
    }

    public int count(int what) {
        switch (what) {
            case 0: return sumOf(ground.layers);
            case 1: return shakes.count;
            case 2: return sumOf(shakes.beats);
            case 3: return words.count;
            case 4: return Integer.bitCount(words.struck);
            case 5: return houses.count;
            case 6: return tanks.count;
            case 7: return works.count;
            case 8: return reader.length;
            default: return OUTSIDE;
        }
    }

    // ---- runs

    public int run(int c, int q, int k, int what) {
        if (!ground.hasLayer(c, k) || !shakes.hasShake(q)) return UNKNOWN;
        if (beyond(what, 0, 1)) return OUTSIDE;
        trial.runFirst(c, q);
        return what == 0 ? trial.push[k] : trial.gone[k];
    }

    public int choices(int c, int what, int k, int j) {
        if (!ground.hasColumn(c)) return UNKNOWN;
        if (what == 3 && (!ground.hasLayer(c, k) || beyond(j, 0, ground.values[c * LAYERS + k] - 1))) return UNKNOWN;
        if (beyond(what, 0, 3)) return OUTSIDE;
        if (what == 0) return ground.choicesOf(c);
        words.look(trial, c);
        if (what == 2) return words.firstKept(c);
        return what == 1 ? words.countKept(c) : keptWith(c, k, j);
    }

    private int keptWith(int c, int k, int j) {
        int many = 0;
        trial.begin(c);
        for (int i = 0; i < words.choices[c]; i++) {
            if (trial.chosen[k] == j && words.keep(c, trial.place())) many++;
            trial.advance();
        }
        return many;
    }

    public long odds(int c, int q, int k, int what) {
        if (!ground.hasLayer(c, k) || !shakes.hasShake(q)) return UNKNOWN;
        if (beyond(what, 0, 1)) return OUTSIDE;
        surveyLayer(c, q, k);
        return survey.kept == 0 ? QUARREL : survey.fraction(what);
    }

    public int step(int c, int q, int k, int what) {
        if (!ground.hasLayer(c, k) || !shakes.hasShake(q)) return UNKNOWN;
        if (beyond(what, 0, 1)) return OUTSIDE;
        surveyLayer(c, q, k);
        if (survey.kept == 0) return QUARREL;
        if (what == 0) return survey.so == 0 ? NONE : survey.leastSo;
        return survey.so < survey.kept ? NONE : survey.greatest;
    }

    /** By each KEPT CHOICE the STEP in which a LAYER LETS GO; it is so, if there is one. */
    private void surveyLayer(int c, int q, int k) {
        words.look(trial, c);
        survey.begin(0);
        trial.begin(c);
        trial.under(q, 0, 0);
        for (int i = 0; i < words.choices[c]; i++) {
            if (words.keep(c, trial.place())) {
                trial.play();
                survey.add(trial.gone[k], trial.weightNow());
            }
            trial.advance();
        }
    }

    // ---- words

    public int word(int c, int kind, int a, int l, int u) {
        if (beyond(kind, 0, 2)) return OUTSIDE;
        if (!ground.hasColumn(c)) return UNKNOWN;
        if (kind == 2 ? !ground.hasLayer(c, a) : !shakes.hasShake(a)) return UNKNOWN;
        if (kind == 2 && (beyond(l, 0, 100) || beyond(u, l, 100))) return OUTSIDE;
        if (words.count >= WORDS) return FULL;
        words.forget();
        return words.addWord(c, kind, a, l, u);
    }

    public int strike(int i, boolean is) {
        if (!words.hasWord(i)) return UNKNOWN;
        int was = words.struck >> i & 1;
        words.struck = is ? words.struck | 1 << i : words.struck & ~(1 << i);
        return was;
    }

    public int bars(int i) {
        if (!words.hasWord(i)) return UNKNOWN;
        int c = words.column[i];
        words.look(trial, c);
        return words.countAgainst(c, i);
    }

    public int toStrike(int c) {
        if (!ground.hasColumn(c)) return UNKNOWN;
        words.look(trial, c);
        return words.fewestAgainst(c);
    }

    // ---- houses, tanks

    public int house(int c, int width, int worth) {
        if (!ground.hasColumn(c)) return UNKNOWN;
        if (beyond(width, 1, 60) || beyond(worth, 0, 9999)) return OUTSIDE;
        if (houses.count >= HOUSES) return FULL;
        return houses.addHouse(c, width, worth);
    }

    public int sink(int h, int q, int what) {
        if (!houses.hasHouse(h) || !shakes.hasShake(q)) return UNKNOWN;
        if (beyond(what, 0, 2)) return OUTSIDE;
        if (what == 2) return firstSink(h, q);
        surveyHouse(h, q);
        if (survey.kept == 0) return QUARREL;
        return what == 0 ? survey.least : survey.greatest;
    }

    public long sunk(int h, int q, int what) {
        if (!houses.hasHouse(h) || !shakes.hasShake(q)) return UNKNOWN;
        if (beyond(what, 0, 1)) return OUTSIDE;
        surveyHouse(h, q);
        return survey.kept == 0 ? QUARREL : survey.fraction(what);
    }

    public int led(int h, int q, int what) {
        if (!houses.hasHouse(h) || !shakes.hasShake(q)) return UNKNOWN;
        if (beyond(what, 0, 1)) return OUTSIDE;
        if (firstSink(h, q) < rules.mark()) return NOT;
        int k = trial.greatestPart(houses.width[h]);
        return what == 0 ? k : trial.gone[k];
    }

    public int lean(int h, int g, int q) {
        if (!houses.hasHouse(h) || !houses.hasHouse(g) || !shakes.hasShake(q)) return UNKNOWN;
        return Math.abs(firstSink(h, q) - firstSink(g, q));
    }

    /** SINK by THE FIRST CHOICE; its RUN stays in the trial. */
    private int firstSink(int h, int q) {
        trial.runFirst(houses.column[h], q);
        return trial.sinkOf(houses.width[h]);
    }

    /** By each KEPT CHOICE the SINK of a HOUSE; it is so, if the HOUSE is SUNK. */
    private void surveyHouse(int h, int q) {
        int c = houses.column[h];
        words.look(trial, c);
        survey.begin(rules.mark());
        trial.begin(c);
        trial.under(q, 0, 0);
        for (int i = 0; i < words.choices[c]; i++) {
            if (words.keep(c, trial.place())) {
                trial.play();
                survey.add(trial.sinkOf(houses.width[h]), trial.weightNow());
            }
            trial.advance();
        }
    }

    public int tank(int c, int k, int weight, int size) {
        if (!ground.hasLayer(c, k)) return UNKNOWN;
        if (beyond(weight, 1, 999) || beyond(size, 1, 99)) return OUTSIDE;
        if (tanks.count >= TANKS) return FULL;
        return tanks.addTank(c, k, weight, size);
    }

    public int floats(int t, int q) {
        if (!tanks.hasTank(t) || !shakes.hasShake(q)) return UNKNOWN;
        surveyLayer(tanks.column[t], q, tanks.layer[t]);
        if (survey.kept == 0) return QUARREL;
        if (survey.so == 0 || tanks.weight[t] >= tanks.size[t] * rules.dry()) return 0;
        return survey.so < survey.kept ? 1 : 2;
    }

    // ---- slips

    public long margin(int q, int a, int b, int k, int what) {
        if (!shakes.hasShake(q) || !ground.hasLayer(a, k) || !ground.hasColumn(b)) return UNKNOWN;
        if (a == b || beyond(what, 0, 2)) return OUTSIDE;
        int z = ground.middleOf(a, k);
        if (what == 2) return z;
        slips.begin(trial, q, Math.min(a, b), Math.max(a, b));
        if (!slips.weigh(trial, a, b, z)) return NOT;
        return leastTerms(slips.holds, slips.driven, what);
    }

    public long least(int q, int what) {
        if (!shakes.hasShake(q)) return UNKNOWN;
        if (beyond(what, 0, 4)) return OUTSIDE;
        slips.begin(trial, q, 0, COLUMNS - 1);
        slips.findLeast(trial);
        if (slips.from == NONE) return NONE;
        switch (what) {
            case 0: return slips.from;
            case 1: return slips.to;
            case 2: return slips.layer;
            default: return leastTerms(slips.leastHolds, slips.leastDriven, what - 3);
        }
    }

    // ---- works, losses

    public int work(int c, int kind, int n, int price) {
        if (!ground.hasColumn(c)) return UNKNOWN;
        if (beyond(kind, 0, 1) || beyond(n, 1, kind == 0 ? 500 : 100) || beyond(price, 1, 999)) return OUTSIDE;
        if (works.count >= WORKS) return FULL;
        return works.addWork(c, kind, n, price);
    }

    public int stands(int set) {
        if (beyond(set, 0, (1 << works.count) - 1)) return UNKNOWN;
        if (housesQuarrel()) return QUARREL;
        works.forgetVerdicts();
        return allStand(set) ? 1 : 0;
    }

    public int plan(int what) {
        if (beyond(what, 0, 1)) return OUTSIDE;
        if (housesQuarrel()) return QUARREL;
        works.forgetVerdicts();
        int best = NONE;
        int bestPrice = NONE;
        for (int set = 0; set < 1 << works.count; set++) {
            int price = works.priceOf(set);
            if ((best == NONE || price < bestPrice) && allStand(set)) {
                best = set;
                bestPrice = price;
            }
        }
        return what == 0 ? best : bestPrice;
    }

    public long loss() {
        if (housesQuarrel()) return QUARREL;
        long all = 0;
        for (int h = 0; h < houses.count; h++) {
            for (int q = 0; q < shakes.count; q++) {
                surveyHouse(h, q);
                long full = (long) shakes.share[q] * houses.worth[h];
                if (survey.weight > 0) all += full * survey.weightSo / survey.weight;
            }
        }
        return all;
    }

    /** Whether in some COLUMN with a HOUSE no CHOICE is KEPT. */
    private boolean housesQuarrel() {
        for (int c = 0; c < COLUMNS; c++) {
            if (houses.widestOn(c) > 0) {
                words.look(trial, c);
                if (words.countKept(c) == 0) return true;
            }
        }
        return false;
    }

    private boolean allStand(int set) {
        for (int c = 0; c < COLUMNS; c++) {
            if (houses.widestOn(c) > 0 && !columnStands(c, set & works.setOn(c))) return false;
        }
        return true;
    }

    /** Asked for many SETS, most of which have the same WORKS on a COLUMN: so the verdict is kept. */
    private boolean columnStands(int c, int set) {
        int at = c * SETS + set;
        if (works.verdict[at] == 0) works.verdict[at] = columnHolds(c, set) ? 1 : 2;
        return works.verdict[at] == 1;
    }

    /** A wider HOUSE never sinks less, so the widest one stands for all of its COLUMN. */
    private boolean columnHolds(int c, int set) {
        int width = houses.widestOn(c);
        for (int q = 0; q < shakes.count; q++) {
            trial.begin(c);
            trial.under(q, works.sumOn(c, 0, set), works.sumOn(c, 1, set));
            for (int i = 0; i < words.choices[c]; i++) {
                if (words.keep(c, trial.place())) {
                    trial.play();
                    if (trial.sinkOf(width) >= rules.mark()) return false;
                }
                trial.advance();
            }
        }
        return true;
    }

    // ---- rules

    public int feed(int n, long bytes) {
        if (beyond(n, 1, 8)) return OUTSIDE;
        if (reader.length + n > BYTES) return FULL;
        reader.append(n, bytes);
        return reader.length;
    }

    public int read() {
        int clauses = reader.parse();
        if (reader.flaw != 0) return -10 - reader.flaw;
        rules.become(reader.draft);
        words.forget();
        return clauses;
    }

    public int fault() {
        return reader.flawAt;
    }

    public int rule(int what) {
        return beyond(what, 0, Rules.SLOTS - 1) ? OUTSIDE : rules.slot[what];
    }

    private static boolean beyond(int v, int low, int high) {
        return v < low || v > high;
    }

    private static int sumOf(int[] row) {
        int sum = 0;
        for (int v : row) sum += v;
        return sum;
    }

    /** The upper (0) or the lower (1) number of a fraction of numbers not below 0, in least terms. */
    private static long leastTerms(long upper, long lower, int which) {
        long shared = lower;
        long rest = upper;
        // Euclid's steps: a long needs fewer than a hundred
        for (int i = 0; i < 200 && rest != 0; i++) {
            long next = shared % rest;
            shared = rest;
            rest = next;
        }
        if (shared == 0) return 0;
        return (which == 0 ? upper : lower) / shared;
    }

    /** The COLUMNS with their LAYERS; rows by COLUMN, LAYER, value. */
    private static final class Ground {
        final int[] top = new int[COLUMNS];
        final int[] water = new int[COLUMNS];
        final int[] layers = new int[COLUMNS];
        final int[] kind = new int[COLUMNS * LAYERS];
        final int[] thick = new int[COLUMNS * LAYERS];
        final int[] values = new int[COLUMNS * LAYERS];
        final int[] value = new int[COLUMNS * LAYERS * VALUES];
        final int[] weight = new int[COLUMNS * LAYERS * VALUES];

        Ground() {
            for (int c = 0; c < COLUMNS; c++) top[c] = 500;
        }

        boolean hasColumn(int c) {
            return c >= 0 && c < COLUMNS;
        }

        boolean hasLayer(int c, int k) {
            return hasColumn(c) && k >= 0 && k < layers[c];
        }

        boolean hasValue(int c, int k, int v) {
            int at = c * LAYERS + k;
            for (int j = 0; j < values[at]; j++) {
                if (value[at * VALUES + j] == v) return true;
            }
            return false;
        }

        int addLayer(int c, int ofKind, int ofThick, int firstValue) {
            int k = layers[c];
            kind[c * LAYERS + k] = ofKind;
            thick[c * LAYERS + k] = ofThick;
            layers[c] = k + 1;
            addValue(c, k, firstValue, 1);
            return k;
        }

        int addValue(int c, int k, int v, int itsWeight) {
            int at = c * LAYERS + k;
            int j = values[at];
            value[at * VALUES + j] = v;
            weight[at * VALUES + j] = itsWeight;
            values[at] = j + 1;
            return j + 1;
        }

        /** How deep a LAYER's upper end lies. */
        int depthOf(int c, int k) {
            int depth = 0;
            for (int i = 0; i < k; i++) depth += thick[c * LAYERS + i];
            return depth;
        }

        boolean isWet(int c, int k) {
            return depthOf(c, k) >= water[c];
        }

        int holdOf(int c, int k, Rules rules) {
            int depth = 0;
            int hold = 0;
            for (int i = 0; i <= k; i++) {
                int thickness = thick[c * LAYERS + i];
                int weighs = thickness * rules.unitWeight(depth >= water[c]);
                hold += i < k ? weighs : weighs / 2;
                depth += thickness;
            }
            return Math.max(1, hold);
        }

        int choicesOf(int c) {
            int many = 1;
            for (int k = 0; k < layers[c]; k++) many *= values[c * LAYERS + k];
            return many;
        }

        int middleOf(int c, int k) {
            return top[c] - depthOf(c, k) - thick[c * LAYERS + k] / 2;
        }

        /** The LAYER at a height; NONE. */
        int layerAt(int c, int z) {
            int upper = top[c];
            for (int k = 0; k < layers[c]; k++) {
                int lower = upper - thick[c * LAYERS + k];
                if (upper >= z && lower < z) return k;
                upper = lower;
            }
            return NONE;
        }

        int weightAbove(int c, int z, Rules rules) {
            int depth = 0;
            int sum = 0;
            for (int k = 0; k < layers[c]; k++) {
                int part = Math.min(thick[c * LAYERS + k], top[c] - depth - z);
                if (part > 0) sum += part * rules.unitWeight(depth >= water[c]);
                depth += thick[c * LAYERS + k];
            }
            return sum;
        }
    }

    private static final class Shakes {
        final int[] share = new int[SHAKES];
        final int[] beats = new int[SHAKES];
        final int[] strength = new int[SHAKES * BEATS];
        int count;

        boolean hasShake(int q) {
            return q >= 0 && q < count;
        }

        int addShake(int itsShare) {
            share[count] = itsShare;
            count++;
            return count - 1;
        }

        int addBeat(int q, int itsStrength) {
            strength[q * BEATS + beats[q]] = itsStrength;
            beats[q]++;
            return beats[q];
        }
    }

    /** THE RULES: five values of each KIND, then five of all; the slots are those of rule(what). */
    private static final class Rules {
        static final int NAMES = 5, KINDS = 4, SLOTS = 25;
        static final int GROW = 0, DRAIN = 1, PASS = 2, SETTLE = 3, HOLD = 4;
        static final int DRY = 20, WET = 21, FLOW = 22, MARK = 23, AFTER = 24;
        // of grow, drain, pass, settle, hold, dry, wet, flow, mark, after
        private static final int[] FIRST = {20, 50, 90, 10, 60, 18, 9, 40, 5, 0};
        private static final int[] LOWEST = {0, 0, 0, 0, 0, 1, 1, 0, 1, 0};
        private static final int[] HIGHEST = {99, 999, 100, 99, 99, 99, 99, 100, 99, 30};

        final int[] slot = new int[SLOTS];

        Rules() {
            for (int s = 0; s < SLOTS; s++) slot[s] = first(s);
        }

        static int first(int s) {
            return FIRST[entry(s)];
        }

        static int lowest(int s) {
            return LOWEST[entry(s)];
        }

        static int highest(int s) {
            return HIGHEST[entry(s)];
        }

        private static int entry(int s) {
            return s < DRY ? s % NAMES : s - DRY + NAMES;
        }

        void become(int[] row) {
            System.arraycopy(row, 0, slot, 0, SLOTS);
        }

        int dry() {
            return slot[DRY];
        }

        /** What a LAYER weighs by its THICK. */
        int unitWeight(boolean isWet) {
            return isWet ? slot[WET] : slot[DRY];
        }

        int flow() {
            return slot[FLOW];
        }

        int mark() {
            return slot[MARK];
        }

        int after() {
            return slot[AFTER];
        }
    }

    /**
     * Goes through the CHOICES of a COLUMN and plays their RUNS. What a LAYER does hangs on those below
     * it alone, so the topmost one's value changes fastest and only LAYERS with another value below
     * them or of their own are played again.
     */
    private static final class Trial {
        final Ground ground = new Ground();
        final Shakes shakes = new Shakes();
        final Rules rules = new Rules();
        final int[] chosen = new int[LAYERS];
        final int[] push = new int[LAYERS];
        final int[] gone = new int[LAYERS];
        private final int[] hold = new int[LAYERS];
        /** By LAYER and BEAT: the strength that comes to it from below. */
        private final int[] arriving = new int[LAYERS * BEATS];
        /** By LAYER and STEP: the PUSH that drains to it from below. */
        private final int[] rising = new int[LAYERS * STEPS];
        private int column;
        private int layers;
        /** The topmost WET LAYER; all below it are WET too. */
        private int firstWet;
        private int beats;
        private int steps;
        private int drainMore;
        private int looseLess;
        /** The lowest LAYER that has to be played again; NONE. */
        private int stale;

        /** THE FIRST CHOICE of a COLUMN, as yet without a SHAKE. */
        void begin(int c) {
            column = c;
            layers = ground.layers[c];
            beats = 0;
            steps = 0;
            stale = layers - 1;
            for (int k = 0; k < layers; k++) chosen[k] = 0;
        }

        /** Behind begin: the SHAKE, and what WORKS do. */
        void under(int q, int moreDrain, int lessLoose) {
            beats = shakes.beats[q];
            steps = beats + rules.after();
            drainMore = moreDrain;
            looseLess = lessLoose;
            stale = layers - 1;
            if (layers == 0) return;
            firstWet = 0;
            for (int k = 0; k < layers; k++) {
                hold[k] = ground.holdOf(column, k, rules);
                if (!ground.isWet(column, k)) firstWet = k + 1;
            }
            System.arraycopy(shakes.strength, q * BEATS, arriving, (layers - 1) * BEATS, beats);
            for (int s = 0; s < steps; s++) rising[(layers - 1) * STEPS + s] = 0;
        }

        void runFirst(int c, int q) {
            begin(c);
            under(q, 0, 0);
            play();
        }

        /** The next CHOICE; behind the last one the first. */
        void advance() {
            for (int k = 0; k < layers; k++) {
                stale = Math.max(stale, k);
                chosen[k]++;
                if (chosen[k] < ground.values[column * LAYERS + k]) return;
                chosen[k] = 0;
            }
        }

        /** This CHOICE's place among all of its COLUMN. */
        int place() {
            int place = 0;
            for (int k = 0; k < layers; k++) place = place * ground.values[column * LAYERS + k] + chosen[k];
            return place;
        }

        int valueAt(int k) {
            return ground.value[(column * LAYERS + k) * VALUES + chosen[k]];
        }

        int weightNow() {
            int weight = 1;
            for (int k = 0; k < layers; k++) weight *= ground.weight[(column * LAYERS + k) * VALUES + chosen[k]];
            return weight;
        }

        /** What a dry LAYER would pass on comes to dry ones alone and changes nothing. */
        void play() {
            for (int k = stale; k >= 0; k--) {
                push[k] = 0;
                gone[k] = NONE;
                if (k >= firstWet) playWet(k);
            }
            stale = NONE;
        }

        private int ruleOf(int k, int name) {
            return rules.slot[ground.kind[column * LAYERS + k] * Rules.NAMES + name];
        }

        private void playWet(int k) {
            int pass = ruleOf(k, Rules.PASS);
            int drain = Math.min(1000, ruleOf(k, Rules.DRAIN) + drainMore);
            int grow = ruleOf(k, Rules.GROW) * Math.max(0, valueAt(k) - looseLess);
            int divisor = 10 * hold[k];
            for (int s = 0; s < steps; s++) {
                if (s < beats) {
                    int strength = arriving[k * BEATS + s];
                    int passed = gone[k] == NONE ? pass : rules.flow();
                    if (k > 0) arriving[(k - 1) * BEATS + s] = strength * passed / 100;
                    gain(k, s, strength * grow / divisor);
                }
                int drained = push[k] * drain / 1000;
                push[k] -= drained;
                gain(k, s, rising[k * STEPS + s]);
                if (k > 0) rising[(k - 1) * STEPS + s] = drained / 2;
            }
        }

        private void gain(int k, int s, int more) {
            if (gone[k] != NONE) return;
            push[k] += more;
            if (push[k] < LET_GO) return;
            push[k] = LET_GO;
            gone[k] = s;
        }

        boolean someGone() {
            for (int k = 0; k < layers; k++) {
                if (gone[k] != NONE) return true;
            }
            return false;
        }

        /** What a LAYER adds to the SINK of a HOUSE. */
        private int partOf(int k, int width) {
            if (gone[k] == NONE) return 0;
            int within = Math.min(ground.thick[column * LAYERS + k], 2 * width - ground.depthOf(column, k));
            return Math.max(0, within) * ruleOf(k, Rules.SETTLE) / 100;
        }

        int sinkOf(int width) {
            int sum = 0;
            for (int k = 0; k < layers; k++) sum += partOf(k, width);
            return sum;
        }

        int greatestPart(int width) {
            int best = 0;
            for (int k = 1; k < layers; k++) {
                if (partOf(k, width) > partOf(best, width)) best = k;
            }
            return best;
        }

        /** By how much a LAYER holds against a SLIP. */
        int gripOf(int k) {
            if (gone[k] != NONE) return 0;
            return hold[k] * (1000 - push[k]) / 1000 * ruleOf(k, Rules.HOLD) / 100;
        }
    }

    /** The WORDS, and which CHOICES they keep. */
    private static final class Words {
        final int[] column = new int[WORDS];
        private final int[] kind = new int[WORDS];
        /** A SHAKE, or a LAYER. */
        private final int[] subject = new int[WORDS];
        private final int[] low = new int[WORDS];
        private final int[] high = new int[WORDS];
        int count;
        /** The SET of WORDS that are STRUCK. */
        int struck;
        /** By COLUMN: how many CHOICES it has. */
        final int[] choices = new int[COLUMNS];
        /** By COLUMN and CHOICE: the SET of WORDS, STRUCK or not, that it is not as they say. */
        private final int[] against = new int[COLUMNS * CHOICES];
        /** The SET of COLUMNS for which the two rows above hold. */
        private int looked;

        boolean hasWord(int i) {
            return i >= 0 && i < count;
        }

        int addWord(int c, int itsKind, int a, int l, int u) {
            column[count] = c;
            kind[count] = itsKind;
            subject[count] = a;
            low[count] = l;
            high[count] = u;
            count++;
            return count - 1;
        }

        /** The SET of WORDS of a COLUMN, of a kind, about a SHAKE or a LAYER. */
        private int setOf(int c, int itsKind, int a) {
            int set = 0;
            for (int i = 0; i < count; i++) {
                if (column[i] == c && kind[i] == itsKind && subject[i] == a) set |= 1 << i;
            }
            return set;
        }

        /** Something has changed by which RUNS or WORDS are other ones. */
        void forget() {
            looked = 0;
        }

        /** Ahead of all that asks about a COLUMN: looks at its CHOICES, if that is still to do. */
        void look(Trial trial, int c) {
            if ((looked >> c & 1) == 1) return;
            choices[c] = trial.ground.choicesOf(c);
            for (int n = 0; n < choices[c]; n++) against[c * CHOICES + n] = 0;
            for (int i = 0; i < count; i++) {
                if (column[i] == c && kind[i] == 2) lookBySounding(trial, c, i);
            }
            for (int q = 0; q < trial.shakes.count; q++) {
                int quiet = setOf(c, 0, q);
                int boiled = setOf(c, 1, q);
                if (quiet != 0 || boiled != 0) {
                    trial.begin(c);
                    trial.under(q, 0, 0);
                    lookByRuns(trial, c, quiet, boiled);
                }
            }
            looked |= 1 << c;
        }

        private void lookBySounding(Trial trial, int c, int i) {
            trial.begin(c);
            for (int n = 0; n < choices[c]; n++) {
                if (beyond(trial.valueAt(subject[i]), low[i], high[i])) against[c * CHOICES + trial.place()] |= 1 << i;
                trial.advance();
            }
        }

        private void lookByRuns(Trial trial, int c, int quiet, int boiled) {
            for (int n = 0; n < choices[c]; n++) {
                trial.play();
                against[c * CHOICES + trial.place()] |= trial.someGone() ? quiet : boiled;
                trial.advance();
            }
        }

        boolean keep(int c, int place) {
            return (against[c * CHOICES + place] & ~struck) == 0;
        }

        int countKept(int c) {
            int many = 0;
            for (int n = 0; n < choices[c]; n++) {
                if (keep(c, n)) many++;
            }
            return many;
        }

        int firstKept(int c) {
            for (int n = 0; n < choices[c]; n++) {
                if (keep(c, n)) return n;
            }
            return NONE;
        }

        int countAgainst(int c, int i) {
            int many = 0;
            for (int n = 0; n < choices[c]; n++) many += against[c * CHOICES + n] >> i & 1;
            return many;
        }

        /** Of the SETS that some CHOICE wants struck: the one of the fewest WORDS, then the least. */
        int fewestAgainst(int c) {
            int best = against[c * CHOICES] & ~struck;
            for (int n = 1; n < choices[c]; n++) {
                int set = against[c * CHOICES + n] & ~struck;
                int fewer = Integer.bitCount(best) - Integer.bitCount(set);
                if (fewer > 0 || fewer == 0 && set < best) best = set;
            }
            return best;
        }
    }

    private static final class Houses {
        final int[] column = new int[HOUSES];
        final int[] width = new int[HOUSES];
        final int[] worth = new int[HOUSES];
        int count;

        boolean hasHouse(int h) {
            return h >= 0 && h < count;
        }

        int addHouse(int c, int itsWidth, int itsWorth) {
            column[count] = c;
            width[count] = itsWidth;
            worth[count] = itsWorth;
            count++;
            return count - 1;
        }

        /** The WIDTH of the widest HOUSE on a COLUMN; 0: there is none. */
        int widestOn(int c) {
            int widest = 0;
            for (int h = 0; h < count; h++) {
                if (column[h] == c) widest = Math.max(widest, width[h]);
            }
            return widest;
        }
    }

    private static final class Tanks {
        final int[] column = new int[TANKS];
        final int[] layer = new int[TANKS];
        final int[] weight = new int[TANKS];
        final int[] size = new int[TANKS];
        int count;

        boolean hasTank(int t) {
            return t >= 0 && t < count;
        }

        int addTank(int c, int k, int itsWeight, int itsSize) {
            column[count] = c;
            layer[count] = k;
            weight[count] = itsWeight;
            size[count] = itsSize;
            count++;
            return count - 1;
        }
    }

    private static final class Works {
        final int[] column = new int[WORKS];
        final int[] kind = new int[WORKS];
        final int[] amount = new int[WORKS];
        final int[] price = new int[WORKS];
        /** By COLUMN and SET of WORKS on it: 0 not looked at, 1 it stands, 2 it does not. */
        final int[] verdict = new int[COLUMNS * SETS];
        int count;

        int addWork(int c, int itsKind, int n, int itsPrice) {
            column[count] = c;
            kind[count] = itsKind;
            amount[count] = n;
            price[count] = itsPrice;
            count++;
            return count - 1;
        }

        void forgetVerdicts() {
            for (int i = 0; i < verdict.length; i++) verdict[i] = 0;
        }

        private static boolean holds(int set, int w) {
            return (set >> w & 1) == 1;
        }

        int setOn(int c) {
            int set = 0;
            for (int w = 0; w < count; w++) {
                if (column[w] == c) set |= 1 << w;
            }
            return set;
        }

        int priceOf(int set) {
            int sum = 0;
            for (int w = 0; w < count; w++) {
                if (holds(set, w)) sum += price[w];
            }
            return sum;
        }

        /** How much the WORKS of a SET, of a kind, do together on a COLUMN. */
        int sumOn(int c, int itsKind, int set) {
            int sum = 0;
            for (int w = 0; w < count; w++) {
                if (holds(set, w) && column[w] == c && kind[w] == itsKind) sum += amount[w];
            }
            return sum;
        }
    }

    /** Gathers a number by each KEPT CHOICE; it is so for those at which the number reaches the mark. */
    private static final class Survey {
        int kept;
        int so;
        long weight;
        long weightSo;
        int least;
        int greatest;
        int leastSo;
        private int mark;

        void begin(int fromMark) {
            mark = fromMark;
            kept = 0;
            so = 0;
            weight = 0;
            weightSo = 0;
        }

        void add(int number, int itsWeight) {
            least = kept == 0 ? number : Math.min(least, number);
            greatest = kept == 0 ? number : Math.max(greatest, number);
            kept++;
            weight += itsWeight;
            if (number < mark) return;
            leastSo = so == 0 ? number : Math.min(leastSo, number);
            so++;
            weightSo += itsWeight;
        }

        long fraction(int which) {
            return leastTerms(weightSo, weight, which);
        }
    }

    /** SLIPS in one SHAKE. */
    private static final class Slips {
        private final int[] grip = new int[COLUMNS * LAYERS];
        long holds;
        long driven;
        int from;
        int to;
        int layer;
        long leastHolds;
        long leastDriven;

        void begin(Trial trial, int q, int first, int last) {
            for (int c = first; c <= last; c++) {
                trial.runFirst(c, q);
                for (int k = 0; k < trial.ground.layers[c]; k++) grip[c * LAYERS + k] = trial.gripOf(k);
            }
        }

        /** Weighs one SLIP; false: some COLUMN has no LAYER there, or it is not DRIVEN. */
        boolean weigh(Trial trial, int a, int b, int z) {
            holds = 0;
            for (int c = Math.min(a, b); c <= Math.max(a, b); c++) {
                int k = trial.ground.layerAt(c, z);
                if (k == NONE) return false;
                holds += grip[c * LAYERS + k];
            }
            driven = trial.ground.weightAbove(a, z, trial.rules) - trial.ground.weightAbove(b, z, trial.rules);
            return driven > 0;
        }

        void findLeast(Trial trial) {
            from = NONE;
            for (int a = 0; a < COLUMNS; a++) {
                for (int b = 0; b < COLUMNS; b++) {
                    if (a != b) findLeastBetween(trial, a, b);
                }
            }
        }

        private void findLeastBetween(Trial trial, int a, int b) {
            for (int k = 0; k < trial.ground.layers[a]; k++) {
                if (!weigh(trial, a, b, trial.ground.middleOf(a, k))) continue;
                if (from != NONE && holds * leastDriven >= leastHolds * driven) continue;
                from = a;
                to = b;
                layer = k;
                leastHolds = holds;
                leastDriven = driven;
            }
        }
    }

    /** THE TEXT, and its way to RULES. */
    private static final class Reader {
        private static final int KIND = 25;
        private static final int BLANK = 32;
        private static final int STAND = 1, NUMBER = 2, AGAIN = 3, THIRTEENTH = 4;

        final int[] draft = new int[Rules.SLOTS];
        int length;
        int flaw;
        int flawAt = NONE;
        private final int[] text = new int[BYTES];
        private int at;
        private int clauses;

        void append(int n, long bytes) {
            for (int i = n - 1; i >= 0 && length < BYTES; i--) {
                text[length] = (int) (bytes >> 8 * i & 255);
                length++;
            }
        }

        /** How many clauses; the RULES are in the draft, if there is no flaw. */
        int parse() {
            at = 0;
            clauses = 0;
            flaw = 0;
            flawAt = NONE;
            for (int s = 0; s < Rules.SLOTS; s++) draft[s] = Rules.first(s);
            skipBlanks();
            for (int i = 0; i < BYTES && at < length && flaw == 0; i++) {
                takeClause();
                skipBlanks();
            }
            length = 0;
            return clauses;
        }

        /** Only the first flaw counts: what is read behind it is read in vain. */
        private void fail(int number, int place) {
            if (flaw != 0) return;
            flaw = number;
            flawAt = place;
        }

        private void skipBlanks() {
            while (at < length && text[at] == BLANK) at++;
        }

        private boolean isNext(int sign) {
            return at < length && text[at] == sign;
        }

        private void takeClause() {
            int start = at;
            int code = takeWord();
            if (code < Rules.DRY) fail(STAND, start);
            else if (clauses >= CLAUSES) fail(THIRTEENTH, start);
            else if (code == KIND) takeKind();
            else draft[code] = takeNumber(Rules.lowest(code), Rules.highest(code));
            skipBlanks();
            if (isNext(';')) at++;
            else fail(STAND, at);
            clauses++;
        }

        private void takeKind() {
            int kind = takeNumber(0, Rules.KINDS - 1);
            int told = 0;
            // a name more than there are is told again
            for (int i = 0; i <= Rules.NAMES && flaw == 0; i++) {
                skipBlanks();
                if (i > 0 && isNext(';')) return;
                int start = at;
                int name = takeWord();
                if (name < 0 || name >= Rules.NAMES) fail(STAND, start);
                else if ((told >> name & 1) == 1) fail(AGAIN, start);
                else draft[kind * Rules.NAMES + name] = takeNumber(Rules.lowest(name), Rules.highest(name));
                told |= 1 << Math.max(0, name);
            }
        }

        /** A NUMBER within its bounds; the lower bound, if there is a flaw. */
        private int takeNumber(int low, int high) {
            skipBlanks();
            int start = at;
            int number = 0;
            while (at < length && text[at] >= '0' && text[at] <= '9') {
                if (at - start < 4) number = number * 10 + text[at] - '0';
                at++;
            }
            if (at == start) fail(STAND, start);
            else if (at - start > 3 || beyond(number, low, high)) fail(NUMBER, start);
            return flaw == 0 ? number : low;
        }

        /** The code of the word that stands here: its slot among the RULES, or KIND; NONE. */
        private int takeWord() {
            int start = at;
            while (at < length && text[at] >= 'a' && text[at] <= 'z') at++;
            for (int code = 0; code <= KIND; code++) {
                if (isSpelt(start, at, spelling(code))) return code;
            }
            return NONE;
        }

        private boolean isSpelt(int start, int end, String word) {
            if (word.isEmpty() || word.length() != end - start) return false;
            for (int i = 0; i < word.length(); i++) {
                if (text[start + i] != word.charAt(i)) return false;
            }
            return true;
        }

        private static String spelling(int code) {
            switch (code) {
                case Rules.GROW: return "grow";
                case Rules.DRAIN: return "drain";
                case Rules.PASS: return "pass";
                case Rules.SETTLE: return "settle";
                case Rules.HOLD: return "hold";
                case Rules.DRY: return "dry";
                case Rules.WET: return "wet";
                case Rules.FLOW: return "flow";
                case Rules.MARK: return "mark";
                case Rules.AFTER: return "after";
                case KIND: return "kind";
                default: return "";
            }
        }
    }
}
