/** The edges that the document names in its part 5 for SLIPS, and in promises 24 and 25. */
public final class EdgeSlipsTest {
    private static final int NONE = Edge.NONE, UNKNOWN = Edge.UNKNOWN, OUTSIDE = Edge.OUTSIDE, NOT = Edge.NOT;
    private static final int MIN = Edge.MIN, MAX = Edge.MAX;

    private static final Edge.Maker BARE = Edge.BARE;
    private static final Edge.Maker VILLAGE = Edge.VILLAGE;
    private static final Edge.Maker STEP_DOWN = () -> stepDown(490);

    private static void says(String where, String words) {
        Edge.says(where, words);
    }

    private static void due(String call, long got, long want) {
        Edge.due(call, got, want);
    }

    public static void main(String[] args) {
        upperEndAtZ();
        lowerEndBelowZ();
        lowerEndOfAFullColumn();
        betweenTwoLayers();
        upperEndIsTop();
        allFromAToB();
        holdsIsCut();
        holdsByPush();
        holdsNotIfLetGo();
        holdBounds();
        drivenByParts();
        drivenByDryOrWet();
        drivenAboveZero();
        byTheFirstChoice();
        middles();
        middlesFarBelow();
        leastOfAll();
        leastFirstByA();
        leastFirstByB();
        leastFirstByLayers();
        marginInLeastTerms();
        marginHeight();
        marginAlike();
        marginRefusals();
        marginNot();
        leastAnswers();
        leastNone();
        leastRefusals();
        Edge.end();
    }

    /** COLUMN 0 has a LAYER from 500 to 480, with its middle at 490; COLUMN 1 has one of THICK 10 from its TOP on. */
    private static SoupSand stepDown(int top) {
        SoupSand x = new SoupSand();
        x.layer(0, 0, 20, 0);
        x.layer(1, 0, 10, 0);
        x.column(1, 0, top);
        x.shake(0);
        return x;
    }

    private static void dueMargin(String what, SoupSand x, int a, int b, long upper, long lower) {
        due(what + ", upper", x.margin(0, a, b, 0, 0), upper);
        due(what + ", lower", x.margin(0, a, b, 0, 1), lower);
    }

    // ---- part 5

    private static void upperEndAtZ() {
        says("Part 5", "(its upper end at z or above");
        // HOLD 90 and 45 times 60 / 100: 54 and 27
        dueMargin("right at z", stepDown(490), 0, 1, 9, 10);
        dueMargin("1 above z: 81 by 90 less 9", stepDown(491), 0, 1, 1, 1);
        dueMargin("1 below z", stepDown(489), 0, 1, NOT, NOT);
    }

    private static void lowerEndBelowZ() {
        says("Part 5", "its lower end below z;");
        dueMargin("1 below z: 81 by 90 less 81", stepDown(499), 0, 1, 9, 1);
        dueMargin("right at z", stepDown(500), 0, 1, NOT, NOT);
        SoupSand x = stepDown(500);
        x.column(0, 1, 1);
        // dry: above z 180, so that it would be DRIVEN
        dueMargin("right at z, though DRIVEN", x, 0, 1, NOT, NOT);
        x.column(1, 0, 499);
        dueMargin("1 below z: 108 and 27 by 180 less 81", x, 0, 1, 15, 11);
    }

    private static void lowerEndOfAFullColumn() {
        says("Part 5", "(its upper end at z or above, its lower end below z; the upper end of the topmost is TOP)");
        for (int full = 0; full < 6; full++) {
            SoupSand x = new SoupSand();
            x.shake(0);
            for (int c = 0; c < 6; c++) {
                if (c != full) x.layer(c, 0, 40, 0);
            }
            for (int k = 0; k < 6; k++) x.layer(full, 0, 2, 0);
            int from = full == 0 ? 1 : full - 1;
            // it ends at 489, and z is 480
            x.column(full, 0, 501);
            dueMargin("six LAYERS of COLUMN " + full + " lie above z", x, from, full, NOT, NOT);
            x.column(full, 0, 491);
            // it ends at 479; its lowest LAYER is there: HOLD 99 times 60 / 100 is 59; 108 and 59 by 180 less 11 * 9
            dueMargin("the sixth of COLUMN " + full + " is at z", x, from, full, 167, 81);
        }
    }

    private static void betweenTwoLayers() {
        says("Part 5", "have a LAYER there each");
        SoupSand x = stepDown(500);
        x.column(0, 1, 1);
        x.layer(1, 0, 10, 0);
        // where two LAYERS meet it is the lower one: HOLD 135 times 60 / 100 is 81; 108 and 81 by 180 less 90
        dueMargin("where two LAYERS meet", x, 0, 1, 21, 10);
        x.column(1, 0, 499);
        dueMargin("1 lower it is the upper one", x, 0, 1, 15, 11);
    }

    private static void upperEndIsTop() {
        says("Part 5", "the upper end of the topmost is TOP");
        int[] tops = {0, 1, 500, 999};
        for (int top : tops) {
            SoupSand x = new SoupSand();
            x.layer(0, 0, 1, 0);
            x.column(0, 0, top);
            x.shake(0);
            due("TOP " + top, x.margin(0, 0, 1, 0, 2), top);
        }
    }

    private static void allFromAToB() {
        says("Part 5", "those from a to b have a LAYER there each");
        SoupSand x = Edge.ruled("kind 1 hold 10;");
        for (int c = 0; c < 6; c++) x.layer(c, c == 0 || c == 5 ? 0 : 1, 20, 0);
        x.shake(0);
        x.column(0, 0, 505);
        // HOLD 90: 54 at both ends, 9 between; 144 by 90 less 45
        dueMargin("six COLUMNS", x, 0, 5, 16, 5);
        dueMargin("the other way it is not DRIVEN", x, 5, 0, NOT, NOT);
        x.column(0, 0, 495);
        // at 490: 144 by 90 less 45
        dueMargin("six COLUMNS, from the last", x, 5, 0, 16, 5);
        for (int c = 1; c < 5; c++) {
            x.column(c, 0, 489);
            dueMargin("COLUMN " + c + " has none there", x, 5, 0, NOT, NOT);
            x.column(c, 0, 490);
        }
        dueMargin("all reach up to z", x, 5, 0, 16, 5);
    }

    private static void holdsIsCut() {
        says("Part 5", "It HOLDS by the sum over these LAYERS of HOLD times (1000 less PUSH) / 1000 times hold / 100 (cut each time;");
        SoupSand x = Edge.ruled("kind 0 grow 10 drain 0 hold 99;wet 9;dry 9;");
        Edge.meters(x, 1);
        x.layer(1, 0, 2, 9);
        x.column(1, 0, 499);
        Edge.shakeOf(x, 0, 500);
        // 9 * 500 / 1000 = 4, 4 * 99 / 100 = 3 in each; DRIVEN by 9
        dueMargin("3 and 3 by 9", x, 0, 1, 2, 3);
    }

    private static void holdsByPush() {
        says("Part 5", "HOLD times (1000 less PUSH) / 1000");
        int[] push = {0, 1, 111, 112, 999};
        long[][] want = {{8, 9}, {7, 9}, {7, 9}, {2, 3}, {0, 1}};
        for (int i = 0; i < push.length; i++) {
            SoupSand x = Edge.ruled("kind 0 grow 10 drain 0 hold 99;kind 1 hold 0;");
            Edge.meters(x, 1);
            x.layer(1, 1, 2, 0);
            x.column(1, 0, 499);
            Edge.shakeOf(x, 0, push[i]);
            due("PUSH " + push[i], x.run(0, 0, 0, 0), push[i]);
            dueMargin("PUSH " + push[i], x, 0, 1, want[i][0], want[i][1]);
        }
    }

    private static void holdsNotIfLetGo() {
        says("Part 5", "0, if it has LET GO)");
        SoupSand x = Edge.ruled("kind 0 grow 10 drain 999 hold 99;kind 1 hold 0;");
        Edge.meters(x, 1);
        x.layer(1, 1, 2, 0);
        x.column(1, 0, 499);
        Edge.shakeOf(x, 0, 999);
        // PUSH is 1 then: 9 * 999 / 1000 = 8, 8 * 99 / 100 = 7
        dueMargin("it has not LET GO", x, 0, 1, 7, 9);
        x.beat(0, 999);
        due("at 1 and 999 it LETS GO", x.run(0, 0, 0, 1), 1);
        due("PUSH is 1 again", x.run(0, 0, 0, 0), 1);
        dueMargin("it has LET GO", x, 0, 1, 0, 1);
    }

    private static void holdBounds() {
        says("Part 2", "hold 60 (0 .. 99)");
        int[] holds = {0, 99};
        int[] want = {0, 89 + 44};
        for (int i = 0; i < 2; i++) {
            SoupSand x = stepDown(490);
            Edge.readText(x, "kind 0 hold " + holds[i] + ";");
            due("hold " + holds[i], x.margin(0, 0, 1, 0, 0), want[i]);
        }
    }

    private static void drivenByParts() {
        says("Part 5", "is DRIVEN by the weight of what lies above z in a (each LAYER's part there times dry or wet) less that in b.");
        SoupSand x = Edge.ruled("kind 0 hold 0;kind 1 hold 99;");
        x.layer(0, 0, 7, 0);
        x.layer(0, 1, 5, 0);
        x.layer(0, 0, 60, 0);
        x.layer(1, 0, 6, 0);
        x.layer(1, 0, 60, 0);
        x.shake(0);
        x.column(1, 0, 492);
        // z = 500 - 7 - 2 = 491; in 0: 7 and 2 of 5; in 1: 1 of 6. HOLD 63 + 22 = 85 times 99 / 100
        due("z", x.margin(0, 0, 1, 1, 2), 491);
        due("84 by 81 less 9, upper", x.margin(0, 0, 1, 1, 0), 7);
        due("84 by 81 less 9, lower", x.margin(0, 0, 1, 1, 1), 6);
        x.column(1, 0, 498);
        // in 1: all of 6 and 1 of 60
        due("84 by 81 less 63, upper", x.margin(0, 0, 1, 1, 0), 14);
        due("84 by 81 less 63, lower", x.margin(0, 0, 1, 1, 1), 3);
    }

    private static void drivenByDryOrWet() {
        says("Part 5", "each LAYER's part there times dry or wet");
        SoupSand x = stepDown(499);
        x.column(0, 1, 1);
        x.column(1, 1, 1);
        // both dry: 108 and 54 by 180 less 162
        dueMargin("both dry", x, 0, 1, 9, 1);
        x.column(0, 1, 0);
        dueMargin("WET and dry: 90 less 162", x, 0, 1, NOT, NOT);
        x.column(0, 1, 1);
        x.column(1, 1, 0);
        dueMargin("dry and WET: 108 and 27 by 180 less 81", x, 0, 1, 15, 11);
    }

    private static void drivenAboveZero() {
        says("Part 5", "MARGIN is the former by the latter, if that is above 0.");
        int[] tops = {499, 500, 501};
        int[] upper = {1, NOT, NOT};
        for (int i = 0; i < 3; i++) {
            SoupSand x = Edge.ruled("kind 0 hold 99;wet 1;");
            x.layer(0, 0, 2, 0);
            x.layer(1, 0, 3, 0);
            x.column(1, 0, tops[i]);
            x.shake(0);
            // z = 499: HOLD 1 and 1; 1 less 0, 1, 2. Cut, 99 / 100 is 0
            due("DRIVEN by " + (500 - tops[i]), x.margin(0, 0, 1, 0, 1), upper[i]);
            due("upper", x.margin(0, 0, 1, 0, 0), upper[i] == NOT ? NOT : 0);
        }
    }

    private static void byTheFirstChoice() {
        says("Part 5", "(all by THE FIRST CHOICE)");
        SoupSand x = Edge.ruled("kind 0 grow 10 drain 0 hold 99;");
        Edge.meters(x, 1);
        x.loose(0, 0, 100, 9);
        x.layer(1, 0, 2, 9);
        x.loose(1, 0, 100, 9);
        x.column(1, 0, 499);
        Edge.shakeOf(x, 0, 500);
        x.word(0, 1, 0, 0, 0);
        dueMargin("THE FIRST is barred in COLUMN 0", x, 0, 1, 2, 3);
    }

    private static void middles() {
        says("Part 5", "Looked at are z at the middles of LAYERS of a (upper end less THICK / 2).");
        SoupSand x = new SoupSand();
        int[] thick = {1, 2, 3, 60, 59, 1};
        int[] middle = {500, 499 - 1, 497 - 1, 494 - 30, 434 - 29, 375};
        for (int t : thick) x.layer(0, 0, t, 0);
        x.shake(0);
        for (int k = 0; k < 6; k++) due("THICK " + thick[k], x.margin(0, 0, 1, k, 2), middle[k]);
        SoupSand y = new SoupSand();
        y.layer(0, 0, 1, 0);
        y.layer(1, 0, 60, 0);
        y.shake(0);
        dueMargin("a topmost one of THICK 1 has nothing above z", y, 0, 1, NOT, NOT);
    }

    private static void middlesFarBelow() {
        says("Part 5", "upper end less THICK / 2");
        SoupSand x = new SoupSand();
        for (int k = 0; k < 6; k++) x.layer(0, 0, 60, 0);
        for (int k = 0; k < 6; k++) x.layer(1, 0, 60, 0);
        x.column(0, 0, 10);
        x.column(1, 0, 0);
        x.shake(0);
        due("the middle of the lowest, below 0", x.margin(0, 0, 1, 5, 2), -320);
        // HOLD 2970 times 60 / 100 in both; 330 * 9 less 320 * 9
        due("a SLIP there, upper", x.margin(0, 0, 1, 5, 0), 198);
        due("a SLIP there, lower", x.margin(0, 0, 1, 5, 1), 5);
    }

    private static void leastOfAll() {
        says("Part 5", "THE LEAST MARGIN: over all a, b, z;");
        SoupSand x = new SoupSand();
        x.shake(0);
        for (int c = 0; c < 6; c++) x.layer(c, 0, 40, 0);
        x.column(5, 0, 510);
        // from 5 at 490: 108 each; 180 less 90; to 4: 216 by 90, to 3: 324 by 90 ..
        long[] want = {5, 4, 0, 12, 5};
        for (int what = 0; what <= 4; what++) due("from the last, " + what, x.least(0, what), want[what]);
        x.column(5, 0, 500);
        x.column(0, 0, 510);
        long[] turned = {0, 1, 0, 12, 5};
        for (int what = 0; what <= 4; what++) due("from the first, " + what, x.least(0, what), turned[what]);
        x.column(5, 0, 511);
        // from 5 at 491: 216 by 180 less 81, which is less, though both its numbers are greater
        long[] both = {5, 4, 0, 24, 11};
        for (int what = 0; what <= 4; what++) due("of both, " + what, x.least(0, what), both[what]);
    }

    private static void leastFirstByA() {
        says("Part 5", "of like ones the first by a");
        SoupSand x = new SoupSand();
        x.shake(0);
        int[] columns = {0, 1, 4, 5};
        for (int c : columns) x.layer(c, 0, 40, 0);
        x.column(1, 0, 510);
        x.column(4, 0, 510);
        due("1 to 0 and 4 to 5 are like", x.least(0, 0), 1);
        due("to", x.least(0, 1), 0);
        x.column(4, 0, 511);
        due("4 to 5 is less", x.least(0, 0), 4);
    }

    private static void leastFirstByB() {
        says("Part 5", "of like ones the first by a, b");
        SoupSand x = new SoupSand();
        x.shake(0);
        for (int c = 2; c <= 4; c++) x.layer(c, 0, 40, 0);
        x.column(3, 0, 510);
        due("3 to 2 and 3 to 4 are like", x.least(0, 0), 3);
        due("the first of these", x.least(0, 1), 2);
        x.column(4, 0, 499);
        due("3 to 4 is less", x.least(0, 1), 4);
    }

    private static void leastFirstByLayers() {
        says("Part 5", "of like ones the first by a, b, LAYERS.");
        SoupSand x = Edge.ruled("kind 0 hold 0;kind 1 hold 60;");
        x.shake(0);
        for (int k = 0; k < 3; k++) x.layer(0, 0, 10, 0);
        for (int k = 0; k < 3; k++) x.layer(1, 0, 10, 0);
        x.column(1, 0, 495);
        due("three of 0 are like", x.least(0, 2), 0);
        due("upper", x.least(0, 3), 0);
        due("lower", x.least(0, 4), 1);
        SoupSand y = Edge.ruled("kind 0 hold 0;kind 1 hold 60;");
        y.shake(0);
        y.layer(0, 1, 10, 0);
        y.layer(0, 0, 10, 0);
        y.layer(0, 0, 10, 0);
        y.layer(1, 0, 60, 0);
        y.column(1, 0, 495);
        due("the upper two of 0 and 0 behind one above 0", y.least(0, 2), 1);
    }

    // ---- promises 24 and 25

    private static void marginInLeastTerms() {
        says("Promise 24", "MARGIN of a SLIP from a to b in a SHAKE at the middle of LAYER k of a: what = 0 the upper, 1 the lower number");
        SoupSand x = Edge.ruled("kind 0 hold 0;");
        x.layer(0, 0, 20, 0);
        x.layer(1, 0, 10, 0);
        x.column(1, 0, 490);
        x.shake(0);
        dueMargin("0 by 90", x, 0, 1, 0, 1);
        dueMargin("81 by 90", stepDown(490), 0, 1, 9, 10);
        SoupSand y = Edge.ruled("kind 0 hold 99;dry 99;wet 99;");
        for (int c = 0; c < 6; c++) {
            for (int k = 0; k < 6; k++) y.layer(c, 0, 60, 0);
        }
        y.column(0, 0, 501);
        y.shake(0);
        // HOLD 32670 times 99 / 100 six times by 99
        due("the greatest there is, upper", y.margin(0, 0, 5, 5, 0), 6 * 32343 / 9);
        due("the greatest there is, lower", y.margin(0, 0, 5, 5, 1), 99 / 9);
    }

    private static void marginHeight() {
        says("Promise 24", "2 the height z");
        SoupSand x = stepDown(499);
        due("DRIVEN", x.margin(0, 0, 1, 0, 2), 490);
        due("not DRIVEN", x.margin(0, 1, 0, 0, 2), 494);
        due("to a COLUMN without LAYERS", x.margin(0, 0, 5, 0, 2), 490);
        x.column(0, 0, 0);
        due("below 0", x.margin(0, 0, 1, 0, 2), -10);
    }

    private static void marginAlike() {
        says("Promise 24", "OUTSIDE (a alike b, too)");
        for (int what = 0; what <= 2; what++) {
            int w = what;
            Edge.refuses(STEP_DOWN, "0 to 0, what " + w, OUTSIDE, x -> x.margin(0, 0, 0, 0, w));
            Edge.refuses(STEP_DOWN, "1 to 1, what " + w, OUTSIDE, x -> x.margin(0, 1, 1, 0, w));
        }
        Edge.refuses(STEP_DOWN, "0 to 0, what 3", OUTSIDE, x -> x.margin(0, 0, 0, 0, 3));
        Edge.refuses(STEP_DOWN, "0 to 0, LAYER 1", UNKNOWN, x -> x.margin(0, 0, 0, 1, 0));
        Edge.refuses(STEP_DOWN, "5 to 5, without LAYERS", UNKNOWN, x -> x.margin(0, 5, 5, 0, 0));
        Edge.refuses(STEP_DOWN, "0 to 0, SHAKE 1", UNKNOWN, x -> x.margin(1, 0, 0, 0, 0));
        Edge.refuses(STEP_DOWN, "6 to 6", UNKNOWN, x -> x.margin(0, 6, 6, 0, 0));
        Edge.refuses(STEP_DOWN, "-1 to -1", UNKNOWN, x -> x.margin(0, -1, -1, 0, 2));
    }

    private static void marginRefusals() {
        says("Promise 24", "2 the height z. UNKNOWN, OUTSIDE");
        Edge.refuses(BARE, "no SHAKE, no LAYER", UNKNOWN, x -> x.margin(0, 0, 1, 0, 0));
        Edge.refusesBeyond(VILLAGE, 0, 1, "SHAKE", UNKNOWN, (x, q) -> x.margin(q, 0, 1, 0, 2));
        Edge.refusesBeyond(VILLAGE, 0, 5, "a", UNKNOWN, (x, a) -> x.margin(0, a, 1, 0, 2));
        Edge.refusesBeyond(VILLAGE, 0, 5, "b", UNKNOWN, (x, b) -> x.margin(0, 0, b, 0, 2));
        Edge.refusesBeyond(VILLAGE, 0, 2, "LAYER of a", UNKNOWN, (x, k) -> x.margin(0, 0, 1, k, 2));
        Edge.refusesBeyond(VILLAGE, 0, 2, "what", OUTSIDE, (x, v) -> x.margin(0, 0, 1, 0, v));
        Edge.refuses(VILLAGE, "LAYER 2 of b alone", UNKNOWN, x -> x.margin(0, 1, 0, 2, 2));
        Edge.refuses(VILLAGE, "SHAKE 2, what 3", UNKNOWN, x -> x.margin(2, 0, 1, 0, 3));
        Edge.refuses(VILLAGE, "LAYER 3, what 3", UNKNOWN, x -> x.margin(0, 0, 1, 3, 3));
        Edge.refuses(VILLAGE, "b 6, what 3", UNKNOWN, x -> x.margin(0, 0, 6, 0, 3));
        Edge.refuses(VILLAGE, "nothing is right", UNKNOWN, x -> x.margin(MIN, MAX, MIN, MAX, MIN));
    }

    private static void marginNot() {
        says("Promise 24", "NOT (of 0, 1): some COLUMN has no LAYER there, or it is not DRIVEN.");
        Edge.Maker unlike = EdgeSlipsTest::withAGap;
        for (int what = 0; what <= 1; what++) {
            int w = what;
            Edge.refuses(unlike, "a COLUMN between has no LAYER, what " + w, NOT, x -> x.margin(0, 0, 2, 0, w));
            Edge.refuses(unlike, "b has no LAYER there, what " + w, NOT, x -> x.margin(0, 0, 3, 0, w));
            Edge.refuses(unlike, "it is not DRIVEN, what " + w, NOT, x -> x.margin(0, 5, 4, 0, w));
        }
        Edge.refuses(unlike, "no LAYER there, what 3", OUTSIDE, x -> x.margin(0, 0, 2, 0, 3));
        Edge.refuses(unlike, "not DRIVEN, what -1", OUTSIDE, x -> x.margin(0, 5, 4, 0, -1));
        Edge.refuses(unlike, "not DRIVEN, SHAKE 1", UNKNOWN, x -> x.margin(1, 5, 4, 0, 0));
        due("what 2 is told", withAGap().margin(0, 0, 2, 0, 2), 500);
        due("what 2 is told, not DRIVEN", withAGap().margin(0, 5, 4, 0, 2), 490);
    }

    /** COLUMN 1 has no LAYER, 3 one far below; 4 and 5 are alike. */
    private static SoupSand withAGap() {
        SoupSand x = new SoupSand();
        int[] columns = {0, 2, 3, 4, 5};
        for (int c : columns) x.layer(c, 0, 20, 0);
        x.column(0, 0, 510);
        x.column(3, 0, 100);
        x.shake(0);
        return x;
    }

    private static void leastAnswers() {
        says("Promise 25", "THE LEAST MARGIN in a SHAKE: what = 0 a, 1 b, 2 the LAYER, 3 the upper, 4 the lower number");
        SoupSand x = stepDown(490);
        long[] want = {0, 1, 0, 9, 10};
        for (int what = 0; what <= 4; what++) due("least(0, " + what + ")", x.least(0, what), want[what]);
        SoupSand y = new SoupSand();
        y.shake(0);
        for (int k = 0; k < 5; k++) y.layer(5, 0, 2, 0);
        y.layer(5, 0, 60, 0);
        y.layer(4, 0, 60, 0);
        y.column(4, 0, 489);
        // the lowest alone reaches down to COLUMN 4: z = 460, HOLD 90 + 270 and 270: 216 and 162 by 40 * 9 less 29 * 9
        long[] lowest = {5, 4, 5, 42, 11};
        for (int what = 0; what <= 4; what++) due("of the last, " + what, y.least(0, what), lowest[what]);
        SoupSand z = stepDown(490);
        int q = Edge.shakeOf(z, 0, 999, 999, 999, 999);
        due("in another SHAKE", z.least(q, 3), 9);
        z.layer(2, 0, 20, 100);
        z.layer(3, 0, 20, 100);
        z.column(2, 0, 700);
        z.column(3, 0, 695);
        due("one has LET GO in that SHAKE", z.least(q, 0), 2);
        due("one has LET GO in that SHAKE, upper", z.least(q, 3), 0);
        due("in the first SHAKE it has not", z.least(0, 0), 0);
    }

    private static void leastNone() {
        says("Promise 25", "NONE: there is none.");
        SoupSand x = new SoupSand();
        x.shake(0);
        for (int what = 0; what <= 4; what++) due("without LAYERS, " + what, x.least(0, what), NONE);
        for (int c = 0; c < 6; c++) x.layer(c, 0, 20, 0);
        for (int what = 0; what <= 4; what++) due("all alike, " + what, x.least(0, what), NONE);
        for (int c = 0; c < 6; c++) x.column(c, 0, 100 * c);
        for (int what = 0; what <= 4; what++) due("all far from one another, " + what, x.least(0, what), NONE);
        x.column(5, 0, 405);
        due("now there is one", x.least(0, 0), 5);
    }

    private static void leastRefusals() {
        says("Promise 25", "NONE: there is none. UNKNOWN, OUTSIDE.");
        Edge.refuses(BARE, "no SHAKE", UNKNOWN, x -> x.least(0, 0));
        Edge.refusesBeyond(VILLAGE, 0, 1, "SHAKE", UNKNOWN, (x, q) -> x.least(q, 0));
        Edge.refusesBeyond(VILLAGE, 0, 4, "what", OUTSIDE, (x, v) -> x.least(0, v));
        Edge.refuses(VILLAGE, "SHAKE 2, what 5", UNKNOWN, x -> x.least(2, 5));
        Edge.Maker alone = () -> {
            SoupSand x = new SoupSand();
            x.shake(0);
            return x;
        };
        Edge.refuses(alone, "what 5 where there is none", OUTSIDE, x -> x.least(0, 5));
        Edge.refuses(alone, "what -1 where there is none", OUTSIDE, x -> x.least(0, -1));
    }
}
