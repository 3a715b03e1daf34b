/** The edges that the document names in its part 1 (COLUMNS, SHAKES) and in promises 1 to 8. */
public final class EdgeColumnsTest {
    private static final int NONE = Edge.NONE, UNKNOWN = Edge.UNKNOWN, OUTSIDE = Edge.OUTSIDE, NOT = Edge.NOT, FULL = Edge.FULL;
    private static final int MIN = Edge.MIN, MAX = Edge.MAX;

    private static final Edge.Maker BARE = Edge.BARE;
    private static final Edge.Maker VILLAGE = Edge.VILLAGE;
    private static final Edge.Maker SIX_LAYERS = EdgeColumnsTest::sixLayers;
    private static final Edge.Maker THREE_VALUES = EdgeColumnsTest::threeValues;
    private static final Edge.Maker SIX_SHAKES = EdgeColumnsTest::sixShakes;
    private static final Edge.Maker THIRTY_BEATS = EdgeColumnsTest::thirtyBeats;

    private static void says(String where, String words) {
        Edge.says(where, words);
    }

    private static void due(String call, long got, long want) {
        Edge.due(call, got, want);
    }

    public static void main(String[] args) {
        nothingAtFirst();
        rulesAtFirst();
        columnsZeroToFive();
        noOtherColumn();
        top();
        topAtFirst();
        water();
        waterAtFirst();
        upToSixLayers();
        fromTheTopDown();
        kinds();
        thick();
        values();
        looseBounds();
        weights();
        firstWeight();
        wet();
        holdIsCut();
        holdAtLeastOne();
        holdAtMost();
        sixShakesAtMost();
        share();
        thirtyBeatsAtMost();
        strengths();
        columnAnswers();
        columnRefusals();
        layerAnswers();
        layerRefusals();
        looseAnswers();
        looseRefusals();
        aboutAnswers();
        aboutRefusals();
        shakeRefusals();
        beatRefusals();
        countOfNothing();
        countOfAll();
        countRefusals();
        Edge.end();
    }

    // ---- makers

    private static SoupSand sixLayers() {
        SoupSand x = new SoupSand();
        for (int k = 0; k < 6; k++) x.layer(5, k % 4, 60, 100 - k);
        x.layer(0, 0, 1, 0);
        Edge.shakeOf(x, 7, 999, 999);
        return x;
    }

    private static SoupSand threeValues() {
        SoupSand x = new SoupSand();
        x.layer(0, 0, 10, 40);
        x.loose(0, 0, 0, 9);
        x.loose(0, 0, 100, 2);
        Edge.shakeOf(x, 7, 300);
        return x;
    }

    private static SoupSand sixShakes() {
        SoupSand x = new SoupSand();
        x.layer(0, 0, 10, 40);
        for (int q = 0; q < 6; q++) Edge.shakeOf(x, q, 300);
        return x;
    }

    private static SoupSand thirtyBeats() {
        SoupSand x = new SoupSand();
        x.layer(0, 0, 10, 1);
        x.shake(7);
        x.shake(8);
        Edge.beats(x, 1, 30, 100);
        return x;
    }

    // ---- promise 1

    private static void nothingAtFirst() {
        says("Promise 1", "No LAYERS, no SHAKES; RULES as at first.");
        SoupSand x = new SoupSand();
        for (int what = 0; what <= 8; what++) due("count(" + what + ")", x.count(what), 0);
        for (int c = 0; c < 6; c++) due("about of COLUMN " + c, x.about(c, 0, 0), UNKNOWN);
        for (int c = 0; c < 6; c++) due("the one CHOICE of COLUMN " + c, x.choices(c, 0, 0, 0), 1);
        for (int c = 0; c < 6; c++) due("it is KEPT", x.choices(c, 1, 0, 0), 1);
        due("no SHAKE", x.beat(0, 0), UNKNOWN);
        due("no WORD", x.strike(0, true), UNKNOWN);
        due("no HOUSE", x.sink(0, 0, 0), UNKNOWN);
        due("no TANK", x.floats(0, 0), UNKNOWN);
        due("no WORK", x.stands(1), UNKNOWN);
        due("all stand", x.stands(0), 1);
        due("no FAULT", x.fault(), NONE);
        due("the empty TEXT", x.read(), 0);
    }

    private static void rulesAtFirst() {
        says("Part 2", "At first, and what a text does not tell: of each KIND grow 20 (0 .. 99), drain 50 (0 .. 999), pass 90 (0 .. 100), "
            + "settle 10 (0 .. 99), hold 60 (0 .. 99); dry 18, wet 9 (1 .. 99), flow 40 (0 .. 100), mark 5 (1 .. 99), after 0 (0 .. 30).");
        SoupSand x = new SoupSand();
        int[] first = {20, 50, 90, 10, 60, 20, 50, 90, 10, 60, 20, 50, 90, 10, 60, 20, 50, 90, 10, 60, 18, 9, 40, 5, 0};
        for (int what = 0; what < 25; what++) due("rule(" + what + ")", x.rule(what), first[what]);
    }

    // ---- part 1

    private static void columnsZeroToFive() {
        says("Part 1", "COLUMNS 0 to 5 stand in a row.");
        for (int c : new int[] {0, 5}) {
            SoupSand x = new SoupSand();
            x.shake(0);
            due("column", x.column(c, 0, 400), 500);
            due("layer", x.layer(c, 0, 10, 40), 0);
            due("loose", x.loose(c, 0, 41, 1), 2);
            due("about", x.about(c, 0, 1), 10);
            due("run", x.run(c, 0, 0, 0), 0);
            due("choices", x.choices(c, 0, 0, 0), 2);
            due("odds", x.odds(c, 0, 0, 1), 1);
            due("step", x.step(c, 0, 0, 0), NONE);
            due("word", x.word(c, 0, 0, 0, 0), 0);
            due("toStrike", x.toStrike(c), 0);
            due("house", x.house(c, 1, 1), 0);
            due("tank", x.tank(c, 0, 1, 1), 0);
            due("margin from it", x.margin(0, c, 5 - c, 0, 2), 395);
            x.layer(5 - c, 0, 10, 40);
            due("margin to it", x.margin(0, 5 - c, c, 0, 2), 495);
            due("work", x.work(c, 0, 1, 1), 0);
        }
    }

    private static void noOtherColumn() {
        says("Terms", "UNKNOWN (a COLUMN, LAYER, SHAKE, WORD, HOUSE, TANK, WORK that there is not)");
        Edge.refusesBeyond(VILLAGE, 0, 5, "column", UNKNOWN, (x, c) -> x.column(c, 0, 1));
        Edge.refusesBeyond(VILLAGE, 0, 5, "layer", UNKNOWN, (x, c) -> x.layer(c, 0, 1, 0));
        Edge.refusesBeyond(VILLAGE, 0, 5, "loose", UNKNOWN, (x, c) -> x.loose(c, 0, 7, 1));
        Edge.refusesBeyond(VILLAGE, 0, 5, "about", UNKNOWN, (x, c) -> x.about(c, 0, 0));
        Edge.refusesBeyond(VILLAGE, 0, 5, "run", UNKNOWN, (x, c) -> x.run(c, 0, 0, 0));
        Edge.refusesBeyond(VILLAGE, 0, 5, "choices", UNKNOWN, (x, c) -> x.choices(c, 0, 0, 0));
        Edge.refusesBeyond(VILLAGE, 0, 5, "odds", UNKNOWN, (x, c) -> x.odds(c, 0, 0, 0));
        Edge.refusesBeyond(VILLAGE, 0, 5, "step", UNKNOWN, (x, c) -> x.step(c, 0, 0, 0));
        Edge.refusesBeyond(VILLAGE, 0, 5, "word about a SHAKE", UNKNOWN, (x, c) -> x.word(c, 0, 0, 0, 0));
        Edge.refusesBeyond(VILLAGE, 0, 5, "word about a LAYER", UNKNOWN, (x, c) -> x.word(c, 2, 0, 0, 0));
        Edge.refusesBeyond(VILLAGE, 0, 5, "toStrike", UNKNOWN, (x, c) -> x.toStrike(c));
        Edge.refusesBeyond(VILLAGE, 0, 5, "house", UNKNOWN, (x, c) -> x.house(c, 1, 1));
        Edge.refusesBeyond(VILLAGE, 0, 5, "tank", UNKNOWN, (x, c) -> x.tank(c, 0, 1, 1));
        Edge.refusesBeyond(VILLAGE, 0, 5, "margin from", UNKNOWN, (x, c) -> x.margin(0, c, 1, 0, 2));
        Edge.refusesBeyond(VILLAGE, 0, 5, "margin to", UNKNOWN, (x, c) -> x.margin(0, 0, c, 0, 2));
        Edge.refusesBeyond(VILLAGE, 0, 5, "work", UNKNOWN, (x, c) -> x.work(c, 0, 1, 1));
    }

    private static void top() {
        says("Part 1", "Each has a TOP (a height 0 .. 999;");
        SoupSand x = new SoupSand();
        x.column(3, 0, 0);
        due("TOP was 0", x.column(3, 0, 999), 0);
        due("TOP was 999", x.column(3, 0, 1), 999);
        Edge.refusesBeyond(VILLAGE, 0, 999, "TOP", OUTSIDE, (y, v) -> y.column(0, 0, v));
    }

    private static void topAtFirst() {
        says("Part 1", "a TOP (a height 0 .. 999; 500 at first)");
        SoupSand x = new SoupSand();
        for (int c = 0; c < 6; c++) due("TOP of " + c, x.column(c, 0, 9), 500);
        for (int c = 0; c < 6; c++) due("TOP of " + c + " then", x.column(c, 0, 10), 9);
    }

    private static void water() {
        says("Part 1", "WATER (a depth 0 .. 400;");
        SoupSand x = new SoupSand();
        x.column(3, 1, 400);
        due("WATER was 400", x.column(3, 1, 0), 400);
        due("WATER was 0", x.column(3, 1, 1), 0);
        Edge.refusesBeyond(VILLAGE, 0, 400, "WATER", OUTSIDE, (y, v) -> y.column(0, 1, v));
    }

    private static void waterAtFirst() {
        says("Part 1", "WATER (a depth 0 .. 400; 0 at first)");
        SoupSand x = new SoupSand();
        for (int c = 0; c < 6; c++) due("WATER of " + c, x.column(c, 1, 9), 0);
        for (int c = 0; c < 6; c++) due("WATER of " + c + " then", x.column(c, 1, 10), 9);
    }

    private static void upToSixLayers() {
        says("Part 1", "up to 6 LAYERS");
        SoupSand x = new SoupSand();
        for (int k = 0; k < 6; k++) due("LAYER " + k + " of COLUMN 5", x.layer(5, 0, 60, 0), k);
        due("a seventh", x.layer(5, 0, 60, 0), FULL);
        for (int k = 0; k < 6; k++) due("LAYER " + k + " of COLUMN 0", x.layer(0, 0, 60, 0), k);
        due("a seventh there", x.layer(0, 0, 60, 0), FULL);
        due("all LAYERS", x.count(0), 12);
        Edge.refuses(SIX_LAYERS, "a seventh LAYER", FULL, y -> y.layer(5, 1, 1, 1));
    }

    private static void fromTheTopDown() {
        says("Part 1", "from the top down");
        SoupSand x = sixLayers();
        for (int k = 0; k < 6; k++) due("depth of LAYER " + k, x.about(5, k, 3), 60 * k);
        for (int k = 0; k < 6; k++) due("KIND of LAYER " + k, x.about(5, k, 0), k % 4);
    }

    private static void kinds() {
        says("Part 1", "of a KIND 0 to 3");
        SoupSand x = new SoupSand();
        x.layer(0, 0, 1, 0);
        x.layer(0, 3, 1, 0);
        due("the least KIND", x.about(0, 0, 0), 0);
        due("the greatest KIND", x.about(0, 1, 0), 3);
        Edge.refusesBeyond(VILLAGE, 0, 3, "KIND", OUTSIDE, (y, v) -> y.layer(0, v, 1, 0));
    }

    private static void thick() {
        says("Part 1", "THICK (1 .. 60)");
        SoupSand x = new SoupSand();
        x.layer(0, 0, 1, 0);
        x.layer(0, 0, 60, 0);
        x.layer(0, 0, 1, 0);
        due("the least THICK", x.about(0, 0, 1), 1);
        due("the greatest THICK", x.about(0, 1, 1), 60);
        due("both lie above the third", x.about(0, 2, 3), 61);
        Edge.refusesBeyond(VILLAGE, 1, 60, "THICK", OUTSIDE, (y, v) -> y.layer(0, 0, v, 0));
    }

    private static void values() {
        says("Part 1", "LOOSE: up to 3 values");
        SoupSand x = new SoupSand();
        x.layer(0, 0, 1, 7);
        due("one value", x.about(0, 0, 2), 1);
        due("a second", x.loose(0, 0, 8, 1), 2);
        due("a third", x.loose(0, 0, 9, 1), 3);
        due("a fourth", x.loose(0, 0, 10, 1), FULL);
        due("three values", x.about(0, 0, 2), 3);
        Edge.refuses(THREE_VALUES, "a fourth value", FULL, y -> y.loose(0, 0, 50, 1));
    }

    private static void looseBounds() {
        says("Part 1", "3 values (0 .. 100)");
        SoupSand x = new SoupSand();
        due("LOOSE 0 with the LAYER", x.layer(0, 0, 2, 0), 0);
        due("LOOSE 100 more", x.loose(0, 0, 100, 1), 2);
        due("LOOSE 100 with the LAYER", x.layer(0, 0, 2, 100), 1);
        due("LOOSE 0 more", x.loose(0, 1, 0, 1), 2);
        Edge.refusesBeyond(VILLAGE, 0, 100, "the first LOOSE", OUTSIDE, (y, v) -> y.layer(0, 0, 1, v));
        Edge.refusesBeyond(VILLAGE, 0, 100, "another LOOSE", OUTSIDE, (y, v) -> y.loose(0, 0, v, 1));
    }

    private static void weights() {
        says("Part 1", "each with a WEIGHT (1 .. 9)");
        // HOLD 9: 1 * 100 * 20 / 90 = 22 for each of strength, so LOOSE 100 LETS GO by 999, LOOSE 0 never
        SoupSand x = new SoupSand();
        x.layer(0, 0, 2, 100);
        x.loose(0, 0, 0, 1);
        Edge.shakeOf(x, 0, 999);
        due("WEIGHT 1 of 1 and 1, upper", x.odds(0, 0, 0, 0), 1);
        due("WEIGHT 1 of 1 and 1, lower", x.odds(0, 0, 0, 1), 2);
        x.loose(0, 0, 1, 9);
        due("WEIGHT 1 of 1, 1 and 9", x.odds(0, 0, 0, 1), 11);
        Edge.refusesBeyond(VILLAGE, 1, 9, "WEIGHT", OUTSIDE, (y, v) -> y.loose(0, 0, 7, v));
    }

    private static void firstWeight() {
        says("Part 1", "the first one is told with the LAYER, of WEIGHT 1");
        SoupSand x = new SoupSand();
        x.layer(0, 0, 2, 100);
        x.loose(0, 0, 0, 9);
        Edge.shakeOf(x, 0, 999);
        due("the first, upper", x.odds(0, 0, 0, 0), 1);
        due("the first, lower", x.odds(0, 0, 0, 1), 10);
    }

    private static void wet() {
        says("Part 1", "A LAYER is WET, if its upper end is as deep as WATER or deeper.");
        SoupSand x = sixLayers();
        due("the topmost with WATER 0", x.about(5, 0, 4), 1);
        x.column(5, 1, 1);
        due("the topmost with WATER 1", x.about(5, 0, 4), 0);
        due("the second with WATER 1", x.about(5, 1, 4), 1);
        x.column(5, 1, 59);
        due("at 60 with WATER 59", x.about(5, 1, 4), 1);
        x.column(5, 1, 60);
        due("at 60 with WATER 60", x.about(5, 1, 4), 1);
        x.column(5, 1, 61);
        due("at 60 with WATER 61", x.about(5, 1, 4), 0);
        x.column(5, 1, 300);
        due("the lowest at 300 with WATER 300", x.about(5, 5, 4), 1);
        due("the one above it with WATER 300", x.about(5, 4, 4), 0);
        x.column(5, 1, 301);
        due("the lowest at 300 with WATER 301", x.about(5, 5, 4), 0);
        x.column(5, 1, 400);
        due("the lowest with WATER 400", x.about(5, 5, 4), 0);
        due("another COLUMN's", x.about(0, 0, 4), 1);
    }

    private static void holdIsCut() {
        says("Part 1", "HOLD of a LAYER: THICK times dry (of WET ones: wet) of all above it, and half of its own so (cut)");
        SoupSand x = new SoupSand();
        x.layer(0, 0, 1, 0);
        x.layer(0, 0, 3, 0);
        x.layer(0, 0, 2, 0);
        due("9 / 2", x.about(0, 0, 5), 4);
        due("9 and 27 / 2", x.about(0, 1, 5), 9 + 13);
        due("9 and 27, uncut, and 18 / 2", x.about(0, 2, 5), 9 + 27 + 9);
        x.column(0, 1, 1);
        due("a dry one: 18 / 2", x.about(0, 0, 5), 9);
        due("a WET one below a dry one", x.about(0, 1, 5), 18 + 13);
        x.column(0, 1, 2);
        due("both dry", x.about(0, 1, 5), 18 + 27);
        due("a WET one below two dry ones", x.about(0, 2, 5), 18 + 54 + 9);
        Edge.readText(x, "dry 7;");
        due("dry 7: 7 / 2", x.about(0, 0, 5), 3);
    }

    private static void holdAtLeastOne() {
        says("Part 1", "and half of its own so (cut); 1 at least.");
        SoupSand x = Edge.ruled("wet 1;dry 1;");
        x.layer(0, 0, 1, 100);
        x.layer(0, 0, 1, 100);
        due("1 / 2, WET", x.about(0, 0, 5), 1);
        due("1 and 1 / 2", x.about(0, 1, 5), 1);
        Edge.shakeOf(x, 0, 1);
        // 1 * 100 * 20 / (10 * 1) = 200 less 10
        due("PUSH by HOLD 1", x.run(0, 0, 1, 0), 190);
        x.column(0, 1, 1);
        due("1 / 2, dry", x.about(0, 0, 5), 1);
        Edge.readText(x, "dry 3;");
        due("3 / 2", x.about(0, 0, 5), 1);
        Edge.readText(x, "dry 4;");
        due("4 / 2", x.about(0, 0, 5), 2);
    }

    private static void holdAtMost() {
        says("Part 1", "THICK times dry (of WET ones: wet) of all above it");
        SoupSand x = sixLayers();
        Edge.readText(x, "dry 99;wet 99;");
        due("the greatest HOLD there is", x.about(5, 5, 5), 5 * 60 * 99 + 60 * 99 / 2);
        x.column(5, 1, 400);
        due("all of it dry", x.about(5, 5, 5), 5 * 60 * 99 + 60 * 99 / 2);
    }

    private static void sixShakesAtMost() {
        says("Part 1", "SHAKES (6 at most)");
        SoupSand x = new SoupSand();
        for (int q = 0; q < 6; q++) due("SHAKE " + q, x.shake(0), q);
        due("a seventh", x.shake(0), FULL);
        due("the sixth takes BEATS", x.beat(5, 1), 1);
        due("a seventh takes none", x.beat(6, 1), UNKNOWN);
        Edge.refuses(SIX_SHAKES, "a seventh SHAKE", FULL, y -> y.shake(1));
    }

    private static void share() {
        says("Part 1", "a SHARE (0 .. 1000, in thousandths a year)");
        SoupSand x = Edge.ruled("kind 0 settle 99;mark 1;");
        x.layer(0, 0, 2, 100);
        x.house(0, 1, 3);
        due("SHARE 0", Edge.shakeOf(x, 0, 999), 0);
        due("LOSS by SHARE 0", x.loss(), 0);
        due("SHARE 1000", Edge.shakeOf(x, 1000, 999), 1);
        due("LOSS by SHARE 1000", x.loss(), 3000);
        Edge.refusesBeyond(VILLAGE, 0, 1000, "SHARE", OUTSIDE, (y, v) -> y.shake(v));
    }

    private static void thirtyBeatsAtMost() {
        says("Part 1", "have up to 30 BEATS");
        SoupSand x = new SoupSand();
        x.shake(0);
        x.shake(0);
        for (int n = 1; n <= 30; n++) due("BEAT " + n, x.beat(0, 0), n);
        due("one more", x.beat(0, 0), FULL);
        due("of another SHAKE", x.beat(1, 0), 1);
        Edge.refuses(THIRTY_BEATS, "one more BEAT", FULL, y -> y.beat(1, 1));
    }

    private static void strengths() {
        says("Part 1", "up to 30 BEATS (0 .. 999)");
        // HOLD 9 and LOOSE 9 by grow 10: PUSH is what comes as strength
        SoupSand x = Edge.ruled("kind 0 grow 10 drain 0;");
        x.layer(0, 0, 2, 9);
        Edge.shakeOf(x, 0, 0);
        due("BEAT 0", x.run(0, 0, 0, 0), 0);
        Edge.shakeOf(x, 0, 999);
        due("BEAT 999", x.run(0, 1, 0, 0), 999);
        Edge.refusesBeyond(VILLAGE, 0, 999, "strength", OUTSIDE, (y, v) -> y.beat(0, v));
    }

    // ---- promises 2 to 8

    private static void columnAnswers() {
        says("Promise 2", "TOP (what = 0), WATER (1) of a COLUMN becomes v: what it was.");
        SoupSand x = new SoupSand();
        due("TOP was", x.column(2, 0, 400), 500);
        due("WATER was", x.column(2, 1, 300), 0);
        due("TOP is", x.column(2, 0, 400), 400);
        due("WATER is", x.column(2, 1, 300), 300);
        due("the next COLUMN's TOP", x.column(3, 0, 1), 500);
        Edge.refusesBeyond(VILLAGE, 0, 1, "what", OUTSIDE, (y, v) -> y.column(0, v, 1));
    }

    private static void columnRefusals() {
        says("Promise 2", "what it was. UNKNOWN, OUTSIDE.");
        Edge.refuses(VILLAGE, "COLUMN 6, what 2", UNKNOWN, x -> x.column(6, 2, 1));
        Edge.refuses(VILLAGE, "COLUMN 6, TOP 1000", UNKNOWN, x -> x.column(6, 0, 1000));
        Edge.refuses(VILLAGE, "COLUMN -1, all wrong", UNKNOWN, x -> x.column(-1, MIN, MAX));
        Edge.refuses(VILLAGE, "TOP 401 is taken, WATER 401 is not", OUTSIDE, x -> x.column(0, 1, 401));
    }

    private static void layerAnswers() {
        says("Promise 3", "A LAYER below all of a COLUMN, with its first LOOSE: its number.");
        SoupSand x = new SoupSand();
        due("the first", x.layer(4, 1, 5, 50), 0);
        due("below it", x.layer(4, 2, 6, 60), 1);
        due("of another COLUMN the first", x.layer(3, 3, 7, 70), 0);
        due("its depth", x.about(4, 1, 3), 5);
        due("its first LOOSE is there", x.loose(4, 1, 60, 1), NOT);
        due("one CHOICE still", x.choices(4, 0, 0, 0), 1);
    }

    private static void layerRefusals() {
        says("Promise 3", "with its first LOOSE: its number. UNKNOWN, OUTSIDE, FULL.");
        Edge.refuses(SIX_LAYERS, "COLUMN 6, THICK 0", UNKNOWN, x -> x.layer(6, 0, 0, 0));
        Edge.refuses(SIX_LAYERS, "KIND 4 of a full COLUMN", OUTSIDE, x -> x.layer(5, 4, 1, 0));
        Edge.refuses(SIX_LAYERS, "THICK 61 of a full COLUMN", OUTSIDE, x -> x.layer(5, 0, 61, 0));
        Edge.refuses(SIX_LAYERS, "LOOSE 101 of a full COLUMN", OUTSIDE, x -> x.layer(5, 0, 1, 101));
        Edge.refuses(SIX_LAYERS, "all right, of a full COLUMN", FULL, x -> x.layer(5, 3, 60, 100));
    }

    private static void looseAnswers() {
        says("Promise 4", "A value of LOOSE more: how many it has.");
        SoupSand x = new SoupSand();
        x.layer(0, 0, 1, 50);
        x.layer(0, 0, 1, 50);
        due("of the upper", x.loose(0, 0, 51, 1), 2);
        due("of the lower", x.loose(0, 1, 51, 1), 2);
        due("of the upper again", x.loose(0, 0, 49, 1), 3);
        due("six CHOICES", x.choices(0, 0, 0, 0), 6);
    }

    private static void looseRefusals() {
        says("Promise 4", "UNKNOWN, OUTSIDE, NOT: it has that value already; FULL: 3.");
        Edge.refusesBeyond(VILLAGE, 0, 2, "LAYER", UNKNOWN, (x, k) -> x.loose(0, k, 7, 1));
        Edge.refuses(VILLAGE, "LAYER of a COLUMN without", UNKNOWN, x -> x.loose(2, 0, 7, 1));
        Edge.refuses(VILLAGE, "LAYER 3, value 101", UNKNOWN, x -> x.loose(0, 3, 101, 0));
        Edge.refuses(VILLAGE, "its only value", NOT, x -> x.loose(0, 0, 10, 1));
        Edge.refuses(VILLAGE, "its only value, WEIGHT 0", OUTSIDE, x -> x.loose(0, 0, 10, 0));
        Edge.refuses(VILLAGE, "its second value", NOT, x -> x.loose(0, 1, 20, 9));
        Edge.refuses(THREE_VALUES, "the first of three", NOT, x -> x.loose(0, 0, 40, 1));
        Edge.refuses(THREE_VALUES, "the second of three", NOT, x -> x.loose(0, 0, 0, 1));
        Edge.refuses(THREE_VALUES, "the third of three", NOT, x -> x.loose(0, 0, 100, 1));
        Edge.refuses(THREE_VALUES, "the third of three, WEIGHT 10", OUTSIDE, x -> x.loose(0, 0, 100, 10));
        Edge.refuses(THREE_VALUES, "a fourth, value 101", OUTSIDE, x -> x.loose(0, 0, 101, 1));
        Edge.refuses(THREE_VALUES, "a fourth, WEIGHT 0", OUTSIDE, x -> x.loose(0, 0, 50, 0));
        Edge.refuses(THREE_VALUES, "a fourth", FULL, x -> x.loose(0, 0, 99, 9));
    }

    private static void aboutAnswers() {
        says("Promise 5", "Of a LAYER: what = 0 KIND, 1 THICK, 2 values of LOOSE, 3 its upper end's depth, 4 whether it is WET (1, 0), 5 HOLD.");
        SoupSand x = Edge.VILLAGE.make();
        int[][] want = {{0, 4, 1, 0, 0, 36}, {1, 10, 2, 4, 1, 72 + 45}, {0, 8, 3, 14, 1, 72 + 90 + 36}};
        for (int k = 0; k < 3; k++) {
            for (int what = 0; what <= 5; what++) due("about(0, " + k + ", " + what + ")", x.about(0, k, what), want[k][what]);
        }
    }

    private static void aboutRefusals() {
        says("Promise 5", "4 whether it is WET (1, 0), 5 HOLD. UNKNOWN, OUTSIDE.");
        Edge.refusesBeyond(VILLAGE, 0, 5, "what", OUTSIDE, (x, v) -> x.about(0, 2, v));
        Edge.refusesBeyond(VILLAGE, 0, 2, "LAYER", UNKNOWN, (x, k) -> x.about(0, k, 0));
        Edge.refuses(VILLAGE, "LAYER of a COLUMN without", UNKNOWN, x -> x.about(2, 0, 0));
        Edge.refuses(VILLAGE, "LAYER 3, what 6", UNKNOWN, x -> x.about(0, 3, 6));
        Edge.refuses(VILLAGE, "COLUMN 6, what -1", UNKNOWN, x -> x.about(6, 0, -1));
    }

    private static void shakeRefusals() {
        says("Promise 6", "A SHAKE without BEATS: its number. OUTSIDE (SHARE), FULL.");
        SoupSand x = new SoupSand();
        due("its number", x.shake(3), 0);
        due("without BEATS", x.count(2), 0);
        due("its first BEAT", x.beat(0, 1), 1);
        due("the next one's number", x.shake(3), 1);
        due("the next one's first BEAT", x.beat(1, 1), 1);
        Edge.refuses(SIX_SHAKES, "a seventh, SHARE 1001", OUTSIDE, y -> y.shake(1001));
        Edge.refuses(SIX_SHAKES, "a seventh, SHARE -1", OUTSIDE, y -> y.shake(-1));
        Edge.refuses(SIX_SHAKES, "a seventh, SHARE 1000", FULL, y -> y.shake(1000));
        Edge.refuses(SIX_SHAKES, "a seventh, SHARE 0", FULL, y -> y.shake(0));
    }

    private static void beatRefusals() {
        says("Promise 7", "A BEAT more of a SHAKE: how many it has. UNKNOWN, OUTSIDE, FULL.");
        Edge.refuses(BARE, "no SHAKE at all", UNKNOWN, x -> x.beat(0, 0));
        Edge.refusesBeyond(VILLAGE, 0, 1, "SHAKE", UNKNOWN, (x, q) -> x.beat(q, 0));
        Edge.refuses(VILLAGE, "SHAKE 2, strength 1000", UNKNOWN, x -> x.beat(2, 1000));
        Edge.refuses(SIX_SHAKES, "SHAKE 6 of six", UNKNOWN, x -> x.beat(6, 0));
        Edge.refuses(THIRTY_BEATS, "strength 1000 of a full one", OUTSIDE, x -> x.beat(1, 1000));
        Edge.refuses(THIRTY_BEATS, "strength -1 of a full one", OUTSIDE, x -> x.beat(1, -1));
        Edge.refuses(THIRTY_BEATS, "strength 999 of a full one", FULL, x -> x.beat(1, 999));
        SoupSand y = thirtyBeats();
        due("the empty one beside a full one", y.beat(0, 5), 1);
    }

    private static void countOfNothing() {
        says("Promise 8", "How many: 0 LAYERS, 1 SHAKES, 2 BEATS, 3 WORDS, 4 STRUCK ones, 5 HOUSES, 6 TANKS, 7 WORKS, 8 bytes of THE TEXT.");
        SoupSand x = new SoupSand();
        x.column(0, 0, 1);
        for (int what = 0; what <= 8; what++) due("count(" + what + ")", x.count(what), 0);
    }

    private static void countOfAll() {
        says("Promise 8", "0 LAYERS, 1 SHAKES, 2 BEATS, 3 WORDS, 4 STRUCK ones, 5 HOUSES, 6 TANKS, 7 WORKS, 8 bytes");
        SoupSand x = new SoupSand();
        for (int i = 0; i < 36; i++) x.layer(i % 6, 0, 1, 0);
        for (int q = 0; q < 6; q++) x.shake(0);
        for (int i = 0; i < 180; i++) x.beat(i % 6, 0);
        for (int i = 0; i < 16; i++) x.word(i % 6, 0, i % 6, 0, 0);
        for (int i = 0; i < 16; i++) x.strike(i, true);
        for (int i = 0; i < 8; i++) x.house(i % 6, 1, 0);
        for (int i = 0; i < 8; i++) x.tank(i % 6, 5, 1, 1);
        for (int i = 0; i < 6; i++) x.work(i, 0, 1, 1);
        for (int i = 0; i < 25; i++) x.feed(8, 0);
        int[] full = {36, 6, 180, 16, 16, 8, 8, 6, 200};
        for (int what = 0; what <= 8; what++) due("count(" + what + ")", x.count(what), full[what]);
        for (int i = 0; i < 16; i++) x.strike(i, false);
        due("none STRUCK", x.count(4), 0);
        due("all WORDS", x.count(3), 16);
        x.read();
        due("THE TEXT once read", x.count(8), 0);
    }

    private static void countRefusals() {
        says("Promise 8", "8 bytes of THE TEXT. OUTSIDE.");
        Edge.refusesBeyond(VILLAGE, 0, 8, "count", OUTSIDE, (x, v) -> x.count(v));
        Edge.refusesBeyond(BARE, 0, 8, "count", OUTSIDE, (x, v) -> x.count(v));
    }
}
