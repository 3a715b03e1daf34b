/** The edges that the document names in its part 5 for HOUSES and TANKS, and in promises 17 to 23. */
public final class EdgeHousesTest {
    private static final int UNKNOWN = Edge.UNKNOWN, OUTSIDE = Edge.OUTSIDE, NOT = Edge.NOT, FULL = Edge.FULL, QUARREL = Edge.QUARREL;
    private static final int MIN = Edge.MIN, MAX = Edge.MAX;

    private static final Edge.Maker BARE = Edge.BARE;
    private static final Edge.Maker VILLAGE = Edge.VILLAGE;
    private static final Edge.Maker QUARRELSOME = Edge.QUARRELSOME;
    private static final Edge.Maker EIGHT_HOUSES = EdgeHousesTest::eightHouses;
    private static final Edge.Maker EIGHT_TANKS = EdgeHousesTest::eightTanks;

    private static void says(String where, String words) {
        Edge.says(where, words);
    }

    private static void due(String call, long got, long want) {
        Edge.due(call, got, want);
    }

    public static void main(String[] args) {
        eightHousesAtMost();
        width();
        worth();
        sinkOfLetGoOnes();
        sinkWithinDepth();
        sinkIsCutEach();
        settleBounds();
        sunkAtMark();
        markBounds();
        ledToTheGreatest();
        ledToTheTopmost();
        eightTanksAtMost();
        tankInALayer();
        tankWeight();
        tankSize();
        floatsIfLighter();
        floatsIfLetGo();
        houseRefusals();
        sinkLeastAndGreatest();
        sinkByTheFirst();
        sinkRefusals();
        sunkAnswers();
        sunkByTheSameRuns();
        sunkRefusals();
        ledStep();
        ledRefusals();
        leanAnswers();
        leanRefusals();
        tankRefusals();
        floatsAnswers();
        floatsRefusals();
        Edge.end();
    }

    // ---- makers

    private static SoupSand eightHouses() {
        SoupSand x = Edge.VILLAGE.make();
        for (int h = 2; h < 8; h++) x.house(h % 6, 10 + h, 1000 + h);
        return x;
    }

    private static SoupSand eightTanks() {
        SoupSand x = Edge.VILLAGE.make();
        for (int t = 2; t < 8; t++) x.tank(t % 2, 0, 10 + t, t);
        return x;
    }

    /** KIND 0 LETS GO in the first BEATS, with a settle; KIND 1 does likewise, with another one; KIND 2 never does. */
    private static SoupSand soup(int settleOf0, int settleOf1, int mark) {
        SoupSand x = Edge.ruled("kind 0 grow 99 pass 100 settle " + settleOf0 + ";kind 1 grow 99 pass 100 settle " + settleOf1
            + ";kind 2 grow 0 drain 0 pass 100 settle 99;flow 100;mark " + mark + ";");
        x.shake(1000);
        Edge.beats(x, 0, 8, 999);
        return x;
    }

    // ---- part 5: houses

    private static void eightHousesAtMost() {
        says("Part 5", "HOUSES (8 at most)");
        SoupSand x = new SoupSand();
        for (int h = 0; h < 8; h++) due("HOUSE " + h, x.house(h % 6, 1, 0), h);
        for (int c = 0; c < 6; c++) due("a ninth, on COLUMN " + c, x.house(c, 1, 0), FULL);
        Edge.refuses(EIGHT_HOUSES, "a ninth HOUSE", FULL, y -> y.house(3, 60, 9999));
    }

    private static void width() {
        says("Part 5", "have a WIDTH (1 .. 60)");
        SoupSand x = soup(50, 50, 1);
        for (int k = 0; k < 6; k++) x.layer(0, 0, 30, 100);
        due("the least", x.house(0, 1, 0), 0);
        due("the greatest", x.house(0, 60, 0), 1);
        due("SINK within depth 2", x.sink(0, 0, 2), 1);
        due("SINK within depth 120", x.sink(1, 0, 2), 60);
        Edge.refusesBeyond(VILLAGE, 1, 60, "WIDTH", OUTSIDE, (y, v) -> y.house(0, v, 0));
    }

    private static void worth() {
        says("Part 5", "and a WORTH (0 .. 9999)");
        SoupSand x = soup(50, 50, 1);
        x.layer(0, 0, 30, 100);
        due("the least", x.house(0, 1, 0), 0);
        due("LOSS of the least", x.loss(), 0);
        due("the greatest", x.house(0, 1, 9999), 1);
        due("LOSS of the greatest", x.loss(), 9999000);
        Edge.refusesBeyond(VILLAGE, 0, 9999, "WORTH", OUTSIDE, (y, v) -> y.house(0, 1, v));
    }

    private static void sinkOfLetGoOnes() {
        says("Part 5", "SINK in a RUN: for each LAYER that has LET GO");
        SoupSand x = soup(50, 50, 1);
        x.house(0, 60, 0);
        due("without LAYERS", x.sink(0, 0, 2), 0);
        x.layer(0, 2, 10, 100);
        due("none has LET GO", x.sink(0, 0, 2), 0);
        x.layer(0, 0, 10, 100);
        due("one has LET GO", x.sink(0, 0, 2), 5);
        x.layer(0, 1, 10, 100);
        due("two have LET GO", x.sink(0, 0, 2), 10);
        x.column(0, 1, 20);
        due("the upper two are dry", x.sink(0, 0, 2), 5);
        x.column(0, 1, 400);
        due("all are dry", x.sink(0, 0, 2), 0);
        x.shake(0);
        x.column(0, 1, 0);
        due("a SHAKE without BEATS", x.sink(0, 1, 2), 0);
    }

    private static void sinkWithinDepth() {
        says("Part 5", "how much of it lies within depth 2 WIDTH");
        // a LAYER from depth 10 to 20
        int[][] widthAndSink = {{1, 0}, {4, 0}, {5, 0}, {6, 1}, {7, 2}, {9, 4}, {10, 5}, {11, 5}, {60, 5}};
        for (int[] row : widthAndSink) {
            SoupSand x = soup(50, 0, 1);
            x.layer(0, 2, 10, 0);
            x.layer(0, 0, 10, 100);
            x.house(0, row[0], 0);
            due("WIDTH " + row[0], x.sink(0, 0, 2), row[1]);
        }
        SoupSand y = soup(50, 0, 1);
        y.layer(0, 2, 60, 0);
        y.layer(0, 2, 58, 0);
        y.layer(0, 0, 60, 100);
        y.layer(0, 0, 60, 100);
        y.house(0, 59, 0);
        y.house(0, 60, 0);
        due("from depth 118, within 118", y.sink(0, 0, 2), 0);
        due("from depth 118, within 120", y.sink(1, 0, 2), 1);
    }

    private static void sinkIsCutEach() {
        says("Part 5", "times settle / 100 (cut), all together");
        SoupSand x = soup(99, 50, 1);
        x.layer(0, 0, 1, 100);
        x.layer(0, 0, 1, 100);
        x.layer(0, 1, 3, 100);
        x.layer(0, 0, 1, 100);
        x.house(0, 1, 0);
        x.house(0, 3, 0);
        due("99 / 100 twice", x.sink(0, 0, 2), 0);
        due("99 / 100 twice, 150 / 100, 99 / 100", x.sink(1, 0, 2), 1);
    }

    private static void settleBounds() {
        says("Part 2", "settle 10 (0 .. 99)");
        SoupSand x = soup(99, 0, 1);
        x.layer(0, 0, 60, 100);
        x.layer(0, 0, 60, 100);
        x.layer(1, 1, 60, 100);
        x.house(0, 60, 0);
        x.house(1, 60, 0);
        due("settle 99: the greatest SINK there is", x.sink(0, 0, 2), 59 + 59);
        due("settle 0", x.sink(1, 0, 2), 0);
    }

    private static void sunkAtMark() {
        says("Part 5", "It is SUNK, if that is mark or more.");
        int[] marks = {4, 5, 6};
        int[] sunk = {1, 1, 0};
        for (int i = 0; i < 3; i++) {
            SoupSand x = soup(50, 0, marks[i]);
            x.layer(0, 0, 10, 100);
            x.house(0, 60, 0);
            due("SINK", x.sink(0, 0, 2), 5);
            due("ODDS by mark " + marks[i], x.sunk(0, 0, 0), sunk[i]);
            due("led by mark " + marks[i], x.led(0, 0, 0), sunk[i] == 1 ? 0 : NOT);
            due("stands by mark " + marks[i], x.stands(0), 1 - sunk[i]);
        }
    }

    private static void markBounds() {
        says("Part 2", "mark 5 (1 .. 99)");
        SoupSand x = soup(50, 0, 1);
        x.layer(0, 0, 1, 100);
        x.layer(0, 0, 2, 100);
        x.house(0, 1, 0);
        x.house(0, 2, 0);
        due("SINK 0 by mark 1", x.sunk(0, 0, 0), 0);
        due("SINK 1 by mark 1", x.sunk(1, 0, 0), 1);
        SoupSand y = soup(99, 90, 99);
        y.layer(0, 0, 50, 100);
        y.layer(0, 0, 50, 100);
        y.layer(1, 0, 50, 100);
        y.layer(1, 0, 51, 100);
        y.house(0, 60, 0);
        y.house(1, 60, 0);
        due("SINK 98 by mark 99", y.sunk(0, 0, 0), 0);
        due("SINK 99 by mark 99", y.sunk(1, 0, 0), 1);
    }

    private static void ledToTheGreatest() {
        says("Part 5", "LED is a SUNK one to the LAYER with the greatest part in SINK");
        int[][] thickAndLayer = {{2, 4, 6, 2}, {2, 6, 4, 1}, {6, 4, 2, 0}};
        for (int[] row : thickAndLayer) {
            SoupSand x = soup(50, 0, 1);
            for (int k = 0; k < 3; k++) x.layer(0, 0, row[k], 100);
            x.house(0, 60, 0);
            due("THICK " + row[0] + ", " + row[1] + ", " + row[2], x.led(0, 0, 0), row[3]);
        }
        SoupSand y = soup(50, 0, 1);
        y.layer(0, 2, 60, 100);
        y.layer(0, 0, 2, 100);
        y.layer(0, 0, 60, 100);
        y.house(0, 31, 0);
        due("the part within the depth counts, and what has not LET GO does not", y.sink(0, 0, 2), 1);
        due("so it is led there", y.led(0, 0, 0), 1);
        y.house(0, 60, 0);
        due("a wider one", y.led(1, 0, 0), 2);
    }

    private static void ledToTheTopmost() {
        says("Part 5", "(of like ones the topmost)");
        int[][] thickAndLayer = {{4, 4, 4, 0}, {2, 4, 4, 1}, {4, 2, 4, 0}, {4, 5, 4, 0}, {5, 4, 6, 2}};
        for (int[] row : thickAndLayer) {
            SoupSand x = soup(50, 0, 1);
            for (int k = 0; k < 3; k++) x.layer(0, 0, row[k], 100);
            x.house(0, 60, 0);
            due("THICK " + row[0] + ", " + row[1] + ", " + row[2], x.led(0, 0, 0), row[3]);
        }
        SoupSand y = soup(50, 0, 1);
        for (int k = 0; k < 5; k++) y.layer(0, 2, 2, 100);
        y.layer(0, 0, 2, 100);
        y.house(0, 60, 0);
        due("the lowest of six alone", y.led(0, 0, 0), 5);
    }

    // ---- part 5: tanks

    private static void eightTanksAtMost() {
        says("Part 5", "TANKS (8 at most)");
        SoupSand x = new SoupSand();
        for (int c = 0; c < 6; c++) x.layer(c, 0, 1, 0);
        for (int t = 0; t < 8; t++) due("TANK " + t, x.tank(t % 6, 0, 1, 1), t);
        for (int c = 0; c < 6; c++) due("a ninth, in COLUMN " + c, x.tank(c, 0, 1, 1), FULL);
        Edge.refuses(EIGHT_TANKS, "a ninth TANK", FULL, y -> y.tank(0, 0, 999, 99));
    }

    private static void tankInALayer() {
        says("Part 5", "lie in a LAYER (by its number) of a COLUMN");
        SoupSand x = soup(0, 0, 1);
        for (int k = 0; k < 6; k++) x.layer(5, k == 5 ? 0 : 2, 1, 100);
        x.tank(5, 0, 1, 99);
        x.tank(5, 5, 1, 99);
        due("in the topmost, that has not LET GO", x.floats(0, 0), 0);
        due("in the lowest, that has", x.floats(1, 0), 2);
        Edge.refusesBeyond(VILLAGE, 0, 2, "LAYER", UNKNOWN, (y, k) -> y.tank(0, k, 1, 1));
        Edge.refuses(VILLAGE, "LAYER of a COLUMN without", UNKNOWN, y -> y.tank(2, 0, 1, 1));
    }

    private static void tankWeight() {
        says("Part 5", "of a WEIGHT (1 .. 999)");
        SoupSand x = soup(0, 0, 1);
        x.layer(0, 0, 1, 100);
        due("the least", x.tank(0, 0, 1, 55), 0);
        due("the greatest", x.tank(0, 0, 999, 55), 1);
        due("the greatest, a SIZE more", x.tank(0, 0, 999, 56), 2);
        due("1 less than 990", x.floats(0, 0), 2);
        due("999 not less than 990", x.floats(1, 0), 0);
        due("999 less than 1008", x.floats(2, 0), 2);
        Edge.refusesBeyond(VILLAGE, 1, 999, "WEIGHT", OUTSIDE, (y, v) -> y.tank(0, 0, v, 1));
    }

    private static void tankSize() {
        says("Part 5", "and a SIZE (1 .. 99)");
        SoupSand x = soup(0, 0, 1);
        x.layer(0, 0, 1, 100);
        due("the least", x.tank(0, 0, 17, 1), 0);
        due("the greatest", x.tank(0, 0, 999, 99), 1);
        due("17 less than 18", x.floats(0, 0), 2);
        due("999 less than 1782", x.floats(1, 0), 2);
        Edge.refusesBeyond(VILLAGE, 1, 99, "SIZE", OUTSIDE, (y, v) -> y.tank(0, 0, 1, v));
    }

    private static void floatsIfLighter() {
        says("Part 5", "WEIGHT is less than SIZE times dry");
        SoupSand x = soup(0, 0, 1);
        x.layer(0, 0, 1, 100);
        x.tank(0, 0, 899, 50);
        x.tank(0, 0, 900, 50);
        x.tank(0, 0, 901, 50);
        due("899 and 900", x.floats(0, 0), 2);
        due("900 and 900", x.floats(1, 0), 0);
        due("901 and 900", x.floats(2, 0), 0);
        SoupSand y = Edge.ruled("kind 0 grow 99;dry 1;");
        y.layer(0, 0, 1, 100);
        y.tank(0, 0, 1, 1);
        y.tank(0, 0, 1, 2);
        Edge.shakeOf(y, 0, 999);
        due("1 and 1", y.floats(0, 0), 0);
        due("1 and 2", y.floats(1, 0), 2);
        Edge.readText(y, "kind 0 grow 99;dry 2;");
        due("1 and 2 by dry 2", y.floats(0, 0), 2);
    }

    private static void floatsIfLetGo() {
        says("Part 5", "it FLOATS, if that LAYER has LET GO");
        SoupSand x = Edge.ruled("kind 0 grow 10 drain 0;");
        Edge.meters(x, 1);
        x.tank(0, 0, 1, 99);
        Edge.shakeOf(x, 0, 999);
        due("at 999", x.floats(0, 0), 0);
        x.beat(0, 1);
        due("at 1000", x.floats(0, 0), 2);
        x.column(0, 1, 1);
        due("dry", x.floats(0, 0), 0);
    }

    // ---- promises 17 to 23

    private static void houseRefusals() {
        says("Promise 17", "A HOUSE: its number. UNKNOWN, OUTSIDE, FULL.");
        SoupSand x = new SoupSand();
        due("its number", x.house(5, 1, 0), 0);
        due("the next one's", x.house(0, 60, 9999), 1);
        Edge.refuses(VILLAGE, "COLUMN 6, WIDTH 0", UNKNOWN, y -> y.house(6, 0, 0));
        Edge.refuses(VILLAGE, "COLUMN -1, WORTH 10000", UNKNOWN, y -> y.house(-1, 1, 10000));
        Edge.refuses(EIGHT_HOUSES, "COLUMN 6 of a ninth", UNKNOWN, y -> y.house(6, 1, 0));
        Edge.refuses(EIGHT_HOUSES, "WIDTH 61 of a ninth", OUTSIDE, y -> y.house(0, 61, 0));
        Edge.refuses(EIGHT_HOUSES, "WORTH -1 of a ninth", OUTSIDE, y -> y.house(0, 1, -1));
        Edge.refuses(EIGHT_HOUSES, "a ninth", FULL, y -> y.house(0, 1, 0));
    }

    /** LOOSE 9, 18, 0 with WEIGHTS 1, 3, 4: of these 18 alone LETS GO; then THICK 2 with settle 50 is SINK 1. */
    private static SoupSand threeValues(int strength) {
        SoupSand x = Edge.ruled("kind 0 grow 10 drain 0 settle 50;mark 1;");
        Edge.meters(x, 1);
        x.loose(0, 0, 18, 3);
        x.loose(0, 0, 0, 4);
        x.house(0, 1, 1);
        x.tank(0, 0, 1, 1);
        Edge.shakeOf(x, 1000, strength);
        return x;
    }

    private static void sinkLeastAndGreatest() {
        says("Promise 18", "SINK of a HOUSE in a SHAKE by KEPT CHOICES: what = 0 the least, 1 the greatest");
        SoupSand x = threeValues(499);
        due("none LETS GO, least", x.sink(0, 0, 0), 0);
        due("none LETS GO, greatest", x.sink(0, 0, 1), 0);
        x = threeValues(500);
        due("one LETS GO, least", x.sink(0, 0, 0), 0);
        due("one LETS GO, greatest", x.sink(0, 0, 1), 1);
        x.word(0, 2, 0, 0, 17);
        due("it is barred, greatest", x.sink(0, 0, 1), 0);
        x.strike(0, true);
        x.word(0, 2, 0, 18, 18);
        due("it alone is KEPT, least", x.sink(0, 0, 0), 1);
        due("it alone is KEPT, greatest", x.sink(0, 0, 1), 1);
        x.house(5, 1, 1);
        due("without LAYERS, least", x.sink(1, 0, 0), 0);
        due("without LAYERS, greatest", x.sink(1, 0, 1), 0);
    }

    private static void sinkByTheFirst() {
        says("Promise 18", "2 by THE FIRST CHOICE (KEPT or not)");
        SoupSand x = threeValues(500);
        due("THE FIRST does not LET GO", x.sink(0, 0, 2), 0);
        x.beat(0, 500);
        due("THE FIRST LETS GO", x.sink(0, 0, 2), 1);
        x.word(0, 2, 0, 0, 0);
        due("though barred", x.sink(0, 0, 2), 1);
        x.word(0, 2, 0, 18, 18);
        due("though none is KEPT", x.sink(0, 0, 2), 1);
    }

    private static void sinkRefusals() {
        says("Promise 18", "UNKNOWN, OUTSIDE, QUARREL (of 0, 1).");
        Edge.refuses(BARE, "no HOUSE, no SHAKE", UNKNOWN, x -> x.sink(0, 0, 0));
        Edge.refusesBeyond(VILLAGE, 0, 1, "HOUSE", UNKNOWN, (x, h) -> x.sink(h, 0, 0));
        Edge.refusesBeyond(VILLAGE, 0, 1, "SHAKE", UNKNOWN, (x, q) -> x.sink(0, q, 0));
        Edge.refusesBeyond(VILLAGE, 0, 2, "what", OUTSIDE, (x, v) -> x.sink(0, 0, v));
        Edge.refusesBeyond(EIGHT_HOUSES, 0, 7, "HOUSE of eight", UNKNOWN, (x, h) -> x.sink(h, 0, 2));
        Edge.refuses(VILLAGE, "HOUSE 2, what 3", UNKNOWN, x -> x.sink(2, 0, 3));
        Edge.refuses(VILLAGE, "SHAKE 2, what 3", UNKNOWN, x -> x.sink(0, 2, 3));
        Edge.refuses(QUARRELSOME, "in a quarrel, least", QUARREL, x -> x.sink(0, 0, 0));
        Edge.refuses(QUARRELSOME, "in a quarrel, greatest", QUARREL, x -> x.sink(0, 0, 1));
        Edge.refuses(QUARRELSOME, "in a quarrel, what 3", OUTSIDE, x -> x.sink(0, 0, 3));
        Edge.refuses(QUARRELSOME, "in a quarrel, SHAKE 2", UNKNOWN, x -> x.sink(0, 2, 0));
        due("in a quarrel, by THE FIRST", QUARRELSOME.make().sink(0, 0, 2), 5);
        due("in a quarrel of another COLUMN", QUARRELSOME.make().sink(1, 0, 1), 6);
    }

    private static void sunkAnswers() {
        says("Promise 19", "ODDS that a HOUSE is SUNK: what = 0 the upper, 1 the lower number.");
        SoupSand x = threeValues(499);
        due("by none, upper", x.sunk(0, 0, 0), 0);
        due("by none, lower", x.sunk(0, 0, 1), 1);
        x = threeValues(500);
        due("3 of 8, upper", x.sunk(0, 0, 0), 3);
        due("3 of 8, lower", x.sunk(0, 0, 1), 8);
        x.beat(0, 500);
        due("4 of 8, upper", x.sunk(0, 0, 0), 1);
        due("4 of 8, lower", x.sunk(0, 0, 1), 2);
        x.word(0, 2, 0, 9, 18);
        due("by all KEPT ones, upper", x.sunk(0, 0, 0), 1);
        due("by all KEPT ones, lower", x.sunk(0, 0, 1), 1);
        x.house(1, 60, 1);
        due("without LAYERS, upper", x.sunk(1, 0, 0), 0);
        due("without LAYERS, lower", x.sunk(1, 0, 1), 1);
    }

    private static void sunkByTheSameRuns() {
        says("Promise 19", "ODDS that a HOUSE is SUNK");
        // 999 loses 0 by drain 1, and 1 by drain 2; then 1 comes
        for (int drain = 1; drain <= 2; drain++) {
            SoupSand x = Edge.ruled("kind 0 grow 10 drain " + drain + " settle 50;mark 1;");
            Edge.meters(x, 1);
            x.house(0, 1, 1);
            x.tank(0, 0, 1, 1);
            x.work(0, 0, 1, 1);
            Edge.shakeOf(x, 1000, 999, 1);
            due("ODDS by drain " + drain, x.sunk(0, 0, 0), 2 - drain);
            due("the greatest SINK by drain " + drain, x.sink(0, 0, 1), 2 - drain);
            due("SINK by THE FIRST by drain " + drain, x.sink(0, 0, 2), 2 - drain);
            due("LOSS by drain " + drain, x.loss(), 1000 * (2 - drain));
            due("floats by drain " + drain, x.floats(0, 0), 2 * (2 - drain));
            due("stands by drain " + drain, x.stands(0), drain - 1);
            due("stands by drain " + drain + " and 1 more", x.stands(1), 1);
        }
    }

    private static void sunkRefusals() {
        says("Promise 19", "ODDS that a HOUSE is SUNK: what = 0 the upper, 1 the lower number. UNKNOWN, OUTSIDE, QUARREL.");
        Edge.refusesBeyond(VILLAGE, 0, 1, "HOUSE", UNKNOWN, (x, h) -> x.sunk(h, 0, 0));
        Edge.refusesBeyond(VILLAGE, 0, 1, "SHAKE", UNKNOWN, (x, q) -> x.sunk(0, q, 0));
        Edge.refusesBeyond(VILLAGE, 0, 1, "what", OUTSIDE, (x, v) -> x.sunk(0, 0, v));
        Edge.refuses(VILLAGE, "HOUSE 2, what 2", UNKNOWN, x -> x.sunk(2, 0, 2));
        Edge.refuses(QUARRELSOME, "in a quarrel, upper", QUARREL, x -> x.sunk(0, 0, 0));
        Edge.refuses(QUARRELSOME, "in a quarrel, lower", QUARREL, x -> x.sunk(0, 0, 1));
        Edge.refuses(QUARRELSOME, "in a quarrel, what 2", OUTSIDE, x -> x.sunk(0, 0, 2));
        Edge.refuses(QUARRELSOME, "in a quarrel, HOUSE 2", UNKNOWN, x -> x.sunk(2, 0, 0));
    }

    private static void ledStep() {
        says("Promise 20", "LED by THE FIRST CHOICE: what = 0 the LAYER, 1 the STEP in which it LETS GO.");
        SoupSand x = Edge.ruled("kind 0 grow 99 drain 0 pass 100 settle 10;flow 100;mark 1;");
        x.layer(0, 0, 10, 100);
        // HOLD 90 + 90 = 180: 999 * 6 * 99 / 1800 = 329 each BEAT
        x.layer(0, 0, 20, 6);
        x.house(0, 5, 1);
        x.house(0, 60, 1);
        Edge.shakeOf(x, 0, 0, 999, 999, 999);
        due("the upper one, LAYER", x.led(1, 0, 0), 0);
        due("the upper one, STEP", x.led(1, 0, 1), 1);
        x.beat(0, 999);
        due("the lower one, LAYER", x.led(1, 0, 0), 1);
        due("the lower one, STEP", x.led(1, 0, 1), 4);
        due("a narrow one, LAYER", x.led(0, 0, 0), 0);
        due("a narrow one, STEP", x.led(0, 0, 1), 1);
    }

    private static void ledRefusals() {
        says("Promise 20", "UNKNOWN, OUTSIDE, NOT: it is not SUNK so.");
        Edge.refusesBeyond(VILLAGE, 0, 1, "HOUSE", UNKNOWN, (x, h) -> x.led(h, 0, 0));
        Edge.refusesBeyond(VILLAGE, 0, 1, "SHAKE", UNKNOWN, (x, q) -> x.led(0, q, 0));
        Edge.refusesBeyond(VILLAGE, 0, 1, "what", OUTSIDE, (x, v) -> x.led(0, 0, v));
        Edge.refuses(VILLAGE, "HOUSE 2, what 2", UNKNOWN, x -> x.led(2, 0, 2));
        Edge.Maker m = () -> threeValues(500);
        Edge.refuses(m, "not SUNK by THE FIRST, LAYER", NOT, x -> x.led(0, 0, 0));
        Edge.refuses(m, "not SUNK by THE FIRST, STEP", NOT, x -> x.led(0, 0, 1));
        Edge.refuses(m, "not SUNK, what 2", OUTSIDE, x -> x.led(0, 0, 2));
        Edge.refuses(m, "not SUNK, SHAKE 1", UNKNOWN, x -> x.led(0, 1, 0));
        due("though SUNK by another CHOICE", m.make().sunk(0, 0, 0), 3);
        SoupSand y = threeValues(999);
        y.beat(0, 1);
        y.word(0, 2, 0, 0, 0);
        due("SUNK by THE FIRST, which is barred", y.led(0, 0, 0), 0);
        y.house(4, 60, 1);
        due("without LAYERS", y.led(1, 0, 0), NOT);
    }

    private static void leanAnswers() {
        says("Promise 21", "By how much two HOUSES sink unlike in a SHAKE, by THE FIRST CHOICES.");
        SoupSand x = soup(99, 50, 1);
        x.layer(0, 0, 60, 100);
        x.layer(0, 0, 60, 100);
        x.layer(1, 1, 60, 100);
        x.house(0, 60, 0);
        x.house(1, 5, 0);
        x.house(5, 1, 0);
        due("118 and 5", x.lean(0, 1, 0), 113);
        due("5 and 118", x.lean(1, 0, 0), 113);
        due("118 and none", x.lean(0, 2, 0), 118);
        due("none and 118", x.lean(2, 0, 0), 118);
        due("one and the same", x.lean(0, 0, 0), 0);
        due("none and none", x.lean(2, 2, 0), 0);
        x.loose(0, 0, 0, 9);
        x.word(0, 2, 0, 0, 0);
        due("by THE FIRST, though barred", x.lean(0, 2, 0), 118);
    }

    private static void leanRefusals() {
        says("Promise 21", "by THE FIRST CHOICES. UNKNOWN.");
        Edge.refusesBeyond(VILLAGE, 0, 1, "the first HOUSE", UNKNOWN, (x, h) -> x.lean(h, 0, 0));
        Edge.refusesBeyond(VILLAGE, 0, 1, "the second HOUSE", UNKNOWN, (x, g) -> x.lean(0, g, 0));
        Edge.refusesBeyond(VILLAGE, 0, 1, "SHAKE", UNKNOWN, (x, q) -> x.lean(0, 1, q));
        Edge.refuses(VILLAGE, "nothing is right", UNKNOWN, x -> x.lean(MIN, MAX, MIN));
        due("in a quarrel it is told", QUARRELSOME.make().lean(0, 1, 0), 1);
    }

    private static void tankRefusals() {
        says("Promise 22", "A TANK: its number. UNKNOWN (COLUMN, LAYER), OUTSIDE, FULL.");
        SoupSand x = VILLAGE.make();
        due("its number", x.tank(0, 2, 1, 1), 2);
        Edge.refuses(VILLAGE, "COLUMN 6, WEIGHT 0", UNKNOWN, y -> y.tank(6, 0, 0, 1));
        Edge.refuses(VILLAGE, "LAYER 3, SIZE 100", UNKNOWN, y -> y.tank(0, 3, 1, 100));
        Edge.refuses(EIGHT_TANKS, "COLUMN 6 of a ninth", UNKNOWN, y -> y.tank(6, 0, 1, 1));
        Edge.refuses(EIGHT_TANKS, "LAYER 3 of a ninth", UNKNOWN, y -> y.tank(0, 3, 1, 1));
        Edge.refuses(EIGHT_TANKS, "WEIGHT 1000 of a ninth", OUTSIDE, y -> y.tank(0, 0, 1000, 1));
        Edge.refuses(EIGHT_TANKS, "SIZE 0 of a ninth", OUTSIDE, y -> y.tank(0, 0, 1, 0));
        Edge.refuses(EIGHT_TANKS, "a ninth", FULL, y -> y.tank(0, 2, 1, 1));
    }

    private static void floatsAnswers() {
        says("Promise 23", "Whether a TANK FLOATS in a SHAKE by KEPT CHOICES: 0 by none, 1 by some, 2 by all.");
        SoupSand x = threeValues(499);
        due("by none", x.floats(0, 0), 0);
        x = threeValues(500);
        due("by one of three", x.floats(0, 0), 1);
        x.beat(0, 500);
        due("by two of three", x.floats(0, 0), 1);
        x.word(0, 2, 0, 9, 18);
        due("by all KEPT ones", x.floats(0, 0), 2);
        x.strike(0, true);
        x.word(0, 2, 0, 0, 0);
        due("by no KEPT one", x.floats(0, 0), 0);
    }

    private static void floatsRefusals() {
        says("Promise 23", "0 by none, 1 by some, 2 by all. UNKNOWN, QUARREL.");
        Edge.refuses(BARE, "no TANK", UNKNOWN, x -> x.floats(0, 0));
        Edge.refusesBeyond(VILLAGE, 0, 1, "TANK", UNKNOWN, (x, t) -> x.floats(t, 0));
        Edge.refusesBeyond(VILLAGE, 0, 1, "SHAKE", UNKNOWN, (x, q) -> x.floats(0, q));
        Edge.refusesBeyond(EIGHT_TANKS, 0, 7, "TANK of eight", UNKNOWN, (x, t) -> x.floats(t, 0));
        Edge.refuses(QUARRELSOME, "in a quarrel", QUARREL, x -> x.floats(0, 0));
        Edge.refuses(QUARRELSOME, "in a quarrel, SHAKE 2", UNKNOWN, x -> x.floats(0, 2));
        Edge.refuses(QUARRELSOME, "in a quarrel, TANK 2", UNKNOWN, x -> x.floats(2, 0));
        due("in a quarrel of another COLUMN", QUARRELSOME.make().floats(1, 0), 1);
    }
}
