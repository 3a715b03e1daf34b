/** The edges that the document names in its part 4 (WORDS) and in promises 13 to 16. */
public final class EdgeWordsTest {
    private static final int UNKNOWN = Edge.UNKNOWN, OUTSIDE = Edge.OUTSIDE, FULL = Edge.FULL, QUARREL = Edge.QUARREL;
    private static final int MIN = Edge.MIN, MAX = Edge.MAX;

    private static final Edge.Maker BARE = Edge.BARE;
    private static final Edge.Maker VILLAGE = Edge.VILLAGE;
    private static final Edge.Maker SIXTEEN_WORDS = EdgeWordsTest::sixteenWords;

    private static void says(String where, String words) {
        Edge.says(where, words);
    }

    private static void due(String call, long got, long want) {
        Edge.due(call, got, want);
    }

    public static void main(String[] args) {
        sixteenAtMost();
        quiet();
        quietInTheLastStep();
        boiled();
        sounding();
        soundingOfItsLayer();
        mayBeStruck();
        asAllSay();
        ofTheColumn();
        withGroundAsItIs();
        withRulesAsTheyAre();
        withoutWorks();
        quarrel();
        whatIsToldInAQuarrel();
        fewestToStrike();
        leastToStrike();
        notStruckOnes();
        oddsOfKeptOnes();
        wordAnswers();
        wordKindAheadOfAll();
        wordSoundingBounds();
        wordRefusals();
        strikeAnswers();
        strikeRefusals();
        barsAnswers();
        barsRefusals();
        toStrikeAnswers();
        toStrikeRefusals();
        Edge.end();
    }

    /** Sixteen WORDS, of all kinds, the last of them of COLUMN 5. */
    private static SoupSand sixteenWords() {
        SoupSand x = new SoupSand();
        x.layer(0, 0, 10, 40);
        x.loose(0, 0, 80, 1);
        x.layer(5, 0, 10, 40);
        Edge.shakeOf(x, 0, 300);
        for (int i = 0; i < 5; i++) x.word(0, 0, 0, 0, 0);
        for (int i = 0; i < 5; i++) x.word(0, 1, 0, 0, 0);
        for (int i = 0; i < 5; i++) x.word(0, 2, 0, 40 + i, 90);
        x.word(5, 0, 0, 0, 0);
        x.strike(3, true);
        return x;
    }

    /** A LAYER in COLUMN 0 with LOOSE 9, and 18 and 0 as well, that takes strength as it is by LOOSE 9. */
    private static SoupSand threeValues(int... beats) {
        SoupSand x = Edge.ruled("kind 0 grow 10 drain 0;");
        Edge.meters(x, 1);
        x.loose(0, 0, 18, 3);
        x.loose(0, 0, 0, 4);
        Edge.shakeOf(x, 0, beats);
        return x;
    }

    // ---- part 4

    private static void sixteenAtMost() {
        says("Part 4", "WORDS (16 at most)");
        SoupSand x = new SoupSand();
        x.layer(2, 0, 1, 0);
        x.shake(0);
        for (int i = 0; i < 16; i++) due("WORD " + i, x.word(i % 6, i % 2, 0, 0, 0), i);
        due("a seventeenth", x.word(2, 2, 0, 0, 100), FULL);
        for (int c = 0; c < 6; c++) due("nor of COLUMN " + c, x.word(c, 0, 0, 0, 0), FULL);
        x.strike(0, true);
        due("nor when one is STRUCK", x.word(2, 2, 0, 0, 100), FULL);
        Edge.refuses(SIXTEEN_WORDS, "a seventeenth, QUIET", FULL, y -> y.word(0, 0, 0, 0, 0));
        Edge.refuses(SIXTEEN_WORDS, "a seventeenth, BOILED", FULL, y -> y.word(5, 1, 0, 0, 0));
        Edge.refuses(SIXTEEN_WORDS, "a seventeenth, SOUNDING", FULL, y -> y.word(0, 2, 0, 0, 0));
    }

    private static void quiet() {
        says("Part 4", "0 QUIET in a SHAKE: no LAYER LETS GO");
        SoupSand x = threeValues(499);
        x.word(0, 0, 0, 0, 0);
        due("999 is the most", x.choices(0, 1, 0, 0), 3);
        SoupSand y = threeValues(500);
        y.word(0, 0, 0, 0, 0);
        due("one LETS GO at 1000", y.choices(0, 1, 0, 0), 2);
        due("that one is barred", y.choices(0, 3, 0, 1), 0);
        y.shake(0);
        y.word(0, 0, 1, 0, 0);
        due("a SHAKE without BEATS is QUIET", y.choices(0, 1, 0, 0), 2);
        SoupSand z = Edge.ruled("kind 0 grow 10 drain 0 pass 0;");
        Edge.meters(z, 6);
        Edge.shakeOf(z, 0, 999, 1);
        z.word(0, 0, 0, 0, 0);
        due("one of six LAYERS is enough", z.choices(0, 1, 0, 0), 0);
    }

    private static void quietInTheLastStep() {
        says("Part 4", "no LAYER LETS GO; 1 BOILED in it: some does");
        // 969 and 1 each DRAINING, from the BEAT on: 1000 in the last of 31
        String rules = "kind 0 grow 10 drain 0;kind 1 grow 10 drain 3 pass 100;after ";
        for (int after = 29; after <= 30; after++) {
            SoupSand x = Edge.ruled(rules + after + ";");
            x.layer(0, 0, 2, 9);
            x.layer(0, 1, 2, 27);
            Edge.shakeOf(x, 0, 969);
            x.word(0, 0, 0, 0, 0);
            x.word(0, 1, 0, 0, 0);
            due("QUIET, after " + after, x.bars(0), after - 29);
            due("BOILED, after " + after, x.bars(1), 30 - after);
        }
    }

    private static void boiled() {
        says("Part 4", "1 BOILED in it: some does");
        SoupSand x = threeValues(499);
        x.word(0, 1, 0, 0, 0);
        due("none LETS GO at 999", x.choices(0, 1, 0, 0), 0);
        SoupSand y = threeValues(500);
        y.word(0, 1, 0, 0, 0);
        due("one LETS GO at 1000", y.choices(0, 1, 0, 0), 1);
        due("it is that one", y.choices(0, 2, 0, 0), 1);
        SoupSand z = Edge.ruled("kind 0 grow 10 drain 0 pass 0;");
        Edge.meters(z, 6);
        Edge.shakeOf(z, 0, 999, 1);
        z.word(0, 1, 0, 0, 0);
        due("one of six LAYERS is enough", z.choices(0, 1, 0, 0), 1);
        z.word(1, 1, 0, 0, 0);
        due("without LAYERS nothing does", z.choices(1, 1, 0, 0), 0);
    }

    private static void sounding() {
        says("Part 4", "2 SOUNDING of a LAYER: its LOOSE lies from l to u.");
        int[][] bounds = {{50, 50, 0}, {49, 51, 0}, {50, 100, 0}, {0, 50, 0}, {0, 100, 0}, {51, 100, 1}, {0, 49, 1}, {51, 51, 1}, {49, 49, 1}};
        for (int[] row : bounds) {
            SoupSand x = new SoupSand();
            x.layer(0, 0, 1, 50);
            x.word(0, 2, 0, row[0], row[1]);
            due("LOOSE 50, from " + row[0] + " to " + row[1], x.bars(0), row[2]);
        }
        int[] ends = {0, 100};
        for (int loose : ends) {
            SoupSand x = new SoupSand();
            x.layer(0, 0, 1, loose);
            x.word(0, 2, 0, loose, loose);
            due("LOOSE " + loose + " alone", x.bars(0), 0);
            x.word(0, 2, 0, 100 - loose, 100 - loose);
            due("the other end alone", x.bars(1), 1);
        }
    }

    private static void soundingOfItsLayer() {
        says("Part 4", "SOUNDING of a LAYER");
        SoupSand x = new SoupSand();
        for (int k = 0; k < 6; k++) x.layer(5, 0, 1, 10 * k);
        x.word(5, 2, 0, 0, 0);
        x.word(5, 2, 5, 50, 50);
        due("of the topmost", x.bars(0), 0);
        due("of the lowest", x.bars(1), 0);
        x.word(5, 2, 4, 50, 50);
        due("of the one above", x.bars(2), 1);
    }

    private static void mayBeStruck() {
        says("Part 4", "A WORD may be STRUCK.");
        SoupSand x = threeValues(0);
        x.word(0, 2, 0, 9, 9);
        due("it bars two of three", x.choices(0, 1, 0, 0), 1);
        x.strike(0, true);
        due("STRUCK it bars none", x.choices(0, 1, 0, 0), 3);
        x.strike(0, false);
        due("not STRUCK it bars again", x.choices(0, 1, 0, 0), 1);
    }

    private static void asAllSay() {
        says("Part 4", "KEPT are CHOICES that are as all WORDS of the COLUMN say that are not STRUCK");
        SoupSand x = threeValues(500);
        due("without WORDS", x.choices(0, 1, 0, 0), 3);
        x.word(0, 2, 0, 0, 9);
        due("as one says", x.choices(0, 1, 0, 0), 2);
        x.word(0, 2, 0, 9, 100);
        due("as two say", x.choices(0, 1, 0, 0), 1);
        x.word(0, 1, 0, 0, 0);
        due("as three say", x.choices(0, 1, 0, 0), 0);
        x.strike(0, true);
        due("the first STRUCK: LOOSE 18 is KEPT", x.choices(0, 2, 0, 0), 1);
        due("it alone", x.choices(0, 1, 0, 0), 1);
    }

    private static void ofTheColumn() {
        says("Part 4", "all WORDS of the COLUMN");
        SoupSand x = threeValues(0);
        x.layer(1, 0, 1, 0);
        x.word(1, 2, 0, 100, 100);
        x.word(5, 1, 0, 0, 0);
        due("WORDS of others bar none", x.choices(0, 1, 0, 0), 3);
        due("but in their own", x.choices(1, 1, 0, 0), 0);
        due("and in their own without LAYERS", x.choices(5, 1, 0, 0), 0);
    }

    private static void withGroundAsItIs() {
        says("Part 4", "KEPT are CHOICES that are as all WORDS of the COLUMN say");
        SoupSand x = threeValues(500);
        x.word(0, 0, 0, 0, 0);
        due("KEPT", x.choices(0, 1, 0, 0), 2);
        x.beat(0, 500);
        due("KEPT, by a BEAT more", x.choices(0, 1, 0, 0), 1);
        x.column(0, 1, 1);
        due("KEPT, once dry", x.choices(0, 1, 0, 0), 3);
        x.column(0, 1, 0);
        due("KEPT, once WET again", x.choices(0, 1, 0, 0), 1);
        x.loose(0, 0, 1, 1);
        due("a fourth value is refused", x.choices(0, 0, 0, 0), 3);
        x.layer(0, 0, 60, 0);
        // 90 of 100 come up: 450 twice
        due("KEPT, by a LAYER more", x.choices(0, 1, 0, 0), 2);
        x.loose(0, 1, 100, 1);
        due("KEPT, by a value more", x.choices(0, 1, 0, 0), 4);
        x.word(0, 2, 1, 100, 100);
        due("KEPT, by a WORD more", x.choices(0, 1, 0, 0), 2);
        x.strike(1, true);
        due("KEPT, that one STRUCK", x.choices(0, 1, 0, 0), 4);
        Edge.readText(x, "kind 0 grow 0;");
        due("KEPT, by other RULES", x.choices(0, 1, 0, 0), 6);
    }

    private static void withRulesAsTheyAre() {
        says("Part 4", "(by RUNS with RULES as they are, without WORKS)");
        SoupSand x = threeValues(500);
        x.word(0, 0, 0, 0, 0);
        due("by grow 10", x.bars(0), 1);
        Edge.readText(x, "kind 0 grow 20 drain 0;");
        due("by grow 20", x.bars(0), 2);
        Edge.readText(x, "kind 0 grow 0;x");
        due("by RULES that are refused", x.bars(0), 2);
        Edge.readText(x, "kind 0 grow 0;");
        due("by grow 0", x.bars(0), 0);
        due("and all are KEPT", x.choices(0, 1, 0, 0), 3);
    }

    private static void withoutWorks() {
        says("Part 4", "without WORKS)");
        SoupSand x = threeValues(500);
        x.word(0, 1, 0, 0, 0);
        x.house(0, 60, 1);
        x.work(0, 1, 100, 1);
        due("LOOSE 18 is KEPT", x.choices(0, 1, 0, 0), 1);
        due("with the WORK it stands", x.stands(1), 1);
        due("and is KEPT still", x.choices(0, 1, 0, 0), 1);
        // 999 loses 0 by drain 1, and 1 by drain 2; then 1 comes
        SoupSand y = Edge.ruled("kind 0 grow 10 drain 1;");
        Edge.meters(y, 1);
        Edge.shakeOf(y, 0, 999, 1);
        y.word(0, 0, 0, 0, 0);
        y.work(0, 0, 1, 1);
        due("drain is not 1 more", y.bars(0), 1);
        Edge.readText(y, "kind 0 grow 10 drain 2;");
        due("by drain 2 it would not LET GO", y.bars(0), 0);
    }

    private static void quarrel() {
        says("Part 4", "They QUARREL, if none is KEPT.");
        SoupSand x = threeValues(0);
        x.word(0, 2, 0, 18, 18);
        due("one is KEPT", x.odds(0, 0, 0, 0), 0);
        x.word(0, 2, 0, 0, 17);
        due("none is KEPT", x.odds(0, 0, 0, 0), QUARREL);
        x.strike(1, true);
        due("one is KEPT again", x.odds(0, 0, 0, 0), 0);
    }

    private static void whatIsToldInAQuarrel() {
        says("Terms", "QUARREL (no CHOICE is KEPT)");
        Edge.Maker m = Edge.QUARRELSOME;
        Edge.refuses(m, "odds", QUARREL, x -> x.odds(0, 0, 0, 0));
        Edge.refuses(m, "step", QUARREL, x -> x.step(0, 0, 0, 0));
        Edge.refuses(m, "sink, least", QUARREL, x -> x.sink(0, 0, 0));
        Edge.refuses(m, "sink, greatest", QUARREL, x -> x.sink(0, 0, 1));
        Edge.refuses(m, "sunk", QUARREL, x -> x.sunk(0, 0, 0));
        Edge.refuses(m, "floats", QUARREL, x -> x.floats(0, 0));
        Edge.refuses(m, "stands", QUARREL, x -> x.stands(0));
        Edge.refuses(m, "plan", QUARREL, x -> x.plan(0));
        Edge.refuses(m, "loss", QUARREL, x -> x.loss());
        SoupSand x = m.make();
        SoupSand y = VILLAGE.make();
        due("run is told", x.run(0, 0, 1, 0), y.run(0, 0, 1, 0));
        due("sink by THE FIRST is told", x.sink(0, 0, 2), y.sink(0, 0, 2));
        due("led is told", x.led(0, 0, 0), y.led(0, 0, 0));
        due("lean is told", x.lean(0, 1, 0), y.lean(0, 1, 0));
        due("margin is told", x.margin(0, 0, 1, 2, 0), y.margin(0, 0, 1, 2, 0));
        due("least is told", x.least(0, 3), y.least(0, 3));
        due("CHOICES are told", x.choices(0, 1, 0, 0), 0);
        due("what bars is told", x.bars(3), 6);
    }

    private static void fewestToStrike() {
        says("Part 4", "TO STRIKE: the fewest WORDS not STRUCK without which some CHOICE is KEPT");
        SoupSand x = threeValues(0);
        x.word(0, 2, 0, 9, 9);
        x.word(0, 2, 0, 9, 10);
        x.word(0, 2, 0, 18, 18);
        due("one WORD of a greater SET, not two of a lesser", x.toStrike(0), 4);
        x.word(0, 2, 0, 18, 19);
        x.word(0, 2, 0, 17, 18);
        due("two, not three", x.toStrike(0), 3);
        SoupSand y = new SoupSand();
        y.layer(0, 0, 1, 50);
        for (int i = 0; i < 16; i++) y.word(0, 2, 0, 0, 49);
        due("all sixteen", y.toStrike(0), 65535);
        for (int i = 0; i < 15; i++) y.strike(i, true);
        due("the last of sixteen", y.toStrike(0), 32768);
        y.strike(15, true);
        due("none of sixteen", y.toStrike(0), 0);
    }

    private static void leastToStrike() {
        says("Part 4", "of like ones the least SET");
        SoupSand x = threeValues(0);
        x.word(0, 2, 0, 9, 9);
        x.word(0, 2, 0, 18, 18);
        due("1, not 2", x.toStrike(0), 1);
        SoupSand y = threeValues(0);
        y.word(0, 2, 0, 18, 18);
        y.word(0, 2, 0, 9, 9);
        due("1, not 2, by a later CHOICE", y.toStrike(0), 1);
        y.word(0, 2, 0, 9, 9);
        y.word(0, 2, 0, 18, 18);
        due("6 and 9: the lesser, though the other's CHOICE is first", y.toStrike(0), 6);
        SoupSand z = threeValues(0);
        z.word(0, 2, 0, 9, 9);
        z.word(0, 2, 0, 18, 18);
        z.word(0, 2, 0, 18, 18);
        z.word(0, 2, 0, 9, 9);
        due("6 and 9 the other way about", z.toStrike(0), 6);
    }

    private static void notStruckOnes() {
        says("Part 4", "the fewest WORDS not STRUCK");
        SoupSand x = threeValues(0);
        x.word(0, 2, 0, 9, 9);
        x.word(0, 2, 0, 18, 18);
        x.word(0, 2, 0, 18, 18);
        due("none STRUCK", x.toStrike(0), 1);
        x.strike(1, true);
        due("1 and 4 are like", x.toStrike(0), 1);
        x.strike(2, true);
        due("no quarrel any more", x.toStrike(0), 0);
        x.strike(1, false);
        due("a quarrel again", x.toStrike(0), 1);
    }

    private static void oddsOfKeptOnes() {
        says("Part 4", "ODDS of something: WEIGHTS of KEPT CHOICES for which it is so, of all KEPT ones.");
        // WEIGHTS 1, 3, 4 of LOOSE 9, 18, 0; LOOSE 18 alone LETS GO
        SoupSand x = threeValues(500);
        due("3 of 8, upper", x.odds(0, 0, 0, 0), 3);
        due("3 of 8, lower", x.odds(0, 0, 0, 1), 8);
        x.word(0, 2, 0, 9, 100);
        due("3 of 4, upper", x.odds(0, 0, 0, 0), 3);
        due("3 of 4, lower", x.odds(0, 0, 0, 1), 4);
        x.word(0, 2, 0, 10, 100);
        due("3 of 3, upper", x.odds(0, 0, 0, 0), 1);
        due("3 of 3, lower", x.odds(0, 0, 0, 1), 1);
    }

    // ---- promises 13 to 16

    private static void wordAnswers() {
        says("Promise 13", "A WORD of a COLUMN, kind 0, 1 (a: a SHAKE) or 2 (a: a LAYER, LOOSE from l to u): its number.");
        SoupSand x = sixteenWords();
        due("the last one's number was 15", x.bars(15), 0);
        SoupSand y = new SoupSand();
        for (int q = 0; q < 6; q++) y.shake(0);
        for (int k = 0; k < 6; k++) y.layer(5, 0, 1, 0);
        due("the last SHAKE", y.word(0, 0, 5, 0, 0), 0);
        due("the last SHAKE, BOILED", y.word(5, 1, 5, 0, 0), 1);
        due("the last LAYER", y.word(5, 2, 5, 0, 0), 2);
        due("l and u are of 2 alone", y.word(5, 0, 0, MIN, MIN), 3);
        due("l and u are of 2 alone, of 1 not", y.word(5, 1, 0, MAX, -1), 4);
    }

    private static void wordKindAheadOfAll() {
        says("Promise 13", "UNKNOWN, OUTSIDE (kind, ahead of all;");
        Edge.refusesBeyond(VILLAGE, 0, 2, "kind", OUTSIDE, (x, v) -> x.word(0, v, 0, 0, 0));
        Edge.refuses(VILLAGE, "kind 3, COLUMN 6", OUTSIDE, x -> x.word(6, 3, 0, 0, 0));
        Edge.refuses(VILLAGE, "kind -1, COLUMN -1", OUTSIDE, x -> x.word(-1, -1, 0, 0, 0));
        Edge.refuses(VILLAGE, "kind 3, no such SHAKE or LAYER", OUTSIDE, x -> x.word(0, 3, 99, 0, 0));
        Edge.refuses(SIXTEEN_WORDS, "kind 3 of a seventeenth", OUTSIDE, x -> x.word(0, 3, 0, 0, 0));
        Edge.refuses(BARE, "kind 3 of nothing", OUTSIDE, x -> x.word(MAX, 3, MAX, MAX, MAX));
    }

    private static void wordSoundingBounds() {
        says("Promise 13", "l, u of 2: 0 .. 100, u not below l)");
        SoupSand x = VILLAGE.make();
        due("0 to 0", x.word(0, 2, 0, 0, 0), 3);
        due("0 to 100", x.word(0, 2, 0, 0, 100), 4);
        due("100 to 100", x.word(0, 2, 0, 100, 100), 5);
        due("7 to 7", x.word(0, 2, 0, 7, 7), 6);
        Edge.refusesBeyond(VILLAGE, 0, 100, "l", OUTSIDE, (y, v) -> y.word(0, 2, 0, v, 100));
        Edge.refusesBeyond(VILLAGE, 0, 100, "u", OUTSIDE, (y, v) -> y.word(0, 2, 0, 0, v));
        Edge.refusesBeyond(VILLAGE, 0, 100, "both", OUTSIDE, (y, v) -> y.word(0, 2, 0, v, v));
        Edge.refuses(VILLAGE, "u right below l", OUTSIDE, y -> y.word(0, 2, 0, 7, 6));
        Edge.refuses(VILLAGE, "u far below l", OUTSIDE, y -> y.word(0, 2, 0, 100, 0));
    }

    private static void wordRefusals() {
        says("Promise 13", "u not below l), FULL.");
        Edge.refuses(BARE, "no SHAKE", UNKNOWN, x -> x.word(0, 0, 0, 0, 0));
        Edge.refuses(BARE, "no SHAKE, BOILED", UNKNOWN, x -> x.word(0, 1, 0, 0, 0));
        Edge.refuses(BARE, "no LAYER", UNKNOWN, x -> x.word(0, 2, 0, 0, 0));
        Edge.refusesBeyond(VILLAGE, 0, 1, "SHAKE of QUIET", UNKNOWN, (x, v) -> x.word(0, 0, v, 0, 0));
        Edge.refusesBeyond(VILLAGE, 0, 1, "SHAKE of BOILED", UNKNOWN, (x, v) -> x.word(0, 1, v, 0, 0));
        Edge.refusesBeyond(VILLAGE, 0, 2, "LAYER", UNKNOWN, (x, v) -> x.word(0, 2, v, 0, 0));
        Edge.refuses(VILLAGE, "LAYER 1 of another COLUMN", UNKNOWN, x -> x.word(4, 2, 1, 0, 0));
        Edge.refuses(VILLAGE, "LAYER 3, u below l", UNKNOWN, x -> x.word(0, 2, 3, 5, 4));
        Edge.refuses(VILLAGE, "COLUMN 6, l 101", UNKNOWN, x -> x.word(6, 2, 0, 101, 101));
        Edge.refuses(SIXTEEN_WORDS, "COLUMN 6 of a seventeenth", UNKNOWN, x -> x.word(6, 0, 0, 0, 0));
        Edge.refuses(SIXTEEN_WORDS, "SHAKE 1 of a seventeenth", UNKNOWN, x -> x.word(0, 0, 1, 0, 0));
        Edge.refuses(SIXTEEN_WORDS, "LAYER 1 of a seventeenth", UNKNOWN, x -> x.word(0, 2, 1, 0, 0));
        Edge.refuses(SIXTEEN_WORDS, "u below l of a seventeenth", OUTSIDE, x -> x.word(0, 2, 0, 5, 4));
        Edge.refuses(SIXTEEN_WORDS, "u 101 of a seventeenth", OUTSIDE, x -> x.word(0, 2, 0, 0, 101));
    }

    private static void strikeAnswers() {
        says("Promise 14", "A WORD is STRUCK, or not: what it was (1, 0).");
        SoupSand x = sixteenWords();
        int[] ends = {0, 15};
        for (int i : ends) {
            due("not STRUCK at first", x.strike(i, false), 0);
            due("nor then", x.strike(i, true), 0);
            due("STRUCK", x.strike(i, true), 1);
            due("STRUCK still", x.strike(i, false), 1);
            due("not any more", x.strike(i, false), 0);
        }
        due("the one that was STRUCK is so still", x.count(4), 1);
        due("it is WORD 3", x.strike(3, true), 1);
    }

    private static void strikeRefusals() {
        says("Promise 14", "what it was (1, 0). UNKNOWN.");
        Edge.refuses(BARE, "no WORD", UNKNOWN, x -> x.strike(0, true));
        Edge.refusesBeyond(VILLAGE, 0, 2, "strike", UNKNOWN, (x, i) -> x.strike(i, true));
        Edge.refusesBeyond(VILLAGE, 0, 2, "strike not", UNKNOWN, (x, i) -> x.strike(i, false));
        Edge.refusesBeyond(SIXTEEN_WORDS, 0, 15, "strike of sixteen", UNKNOWN, (x, i) -> x.strike(i, true));
        // as bits these would be those of WORDS that there are
        Edge.refuses(SIXTEEN_WORDS, "strike 32", UNKNOWN, x -> x.strike(32, true));
        Edge.refuses(SIXTEEN_WORDS, "strike -32", UNKNOWN, x -> x.strike(-32, true));
        Edge.refuses(SIXTEEN_WORDS, "strike 35 not", UNKNOWN, x -> x.strike(35, false));
    }

    private static void barsAnswers() {
        says("Promise 15", "How many CHOICES of its COLUMN a WORD alone bars.");
        SoupSand x = threeValues(500);
        x.word(0, 2, 0, 0, 100);
        x.word(0, 2, 0, 1, 8);
        x.word(0, 0, 0, 0, 0);
        x.word(0, 1, 0, 0, 0);
        due("none", x.bars(0), 0);
        due("all", x.bars(1), 3);
        due("one", x.bars(2), 1);
        due("two", x.bars(3), 2);
        x.strike(3, true);
        due("two, though STRUCK", x.bars(3), 2);
        SoupSand y = new SoupSand();
        y.shake(0);
        y.word(4, 0, 0, 0, 0);
        y.word(4, 1, 0, 0, 0);
        due("QUIET without LAYERS", y.bars(0), 0);
        due("BOILED without LAYERS", y.bars(1), 1);
        SoupSand z = new SoupSand();
        z.shake(0);
        for (int k = 0; k < 6; k++) {
            z.layer(0, 0, 1, 0);
            z.loose(0, k, 1, 1);
            z.loose(0, k, 2, 1);
        }
        for (int i = 0; i < 15; i++) z.word(0, 0, 0, 0, 0);
        z.word(0, 1, 0, 0, 0);
        due("all of 729, by the sixteenth WORD", z.bars(15), 729);
        due("none of 729", z.bars(14), 0);
    }

    private static void barsRefusals() {
        says("Promise 15", "a WORD alone bars. UNKNOWN.");
        Edge.refuses(BARE, "no WORD", UNKNOWN, x -> x.bars(0));
        Edge.refusesBeyond(VILLAGE, 0, 2, "bars", UNKNOWN, (x, i) -> x.bars(i));
        Edge.refusesBeyond(SIXTEEN_WORDS, 0, 15, "bars of sixteen", UNKNOWN, (x, i) -> x.bars(i));
        Edge.refuses(SIXTEEN_WORDS, "bars 32", UNKNOWN, x -> x.bars(32));
    }

    private static void toStrikeAnswers() {
        says("Promise 16", "TO STRIKE, of a COLUMN: the SET (0: they do not QUARREL).");
        SoupSand x = new SoupSand();
        for (int c = 0; c < 6; c++) due("without LAYERS or WORDS", x.toStrike(c), 0);
        x.shake(0);
        x.word(0, 0, 0, 0, 0);
        due("one that bars none", x.toStrike(0), 0);
        x.word(5, 1, 0, 0, 0);
        due("one that bars the only CHOICE", x.toStrike(5), 2);
        due("of another COLUMN", x.toStrike(0), 0);
        due("nothing was STRUCK by it", x.count(4), 0);
    }

    private static void toStrikeRefusals() {
        says("Promise 16", "(0: they do not QUARREL). UNKNOWN.");
        Edge.refusesBeyond(VILLAGE, 0, 5, "toStrike", UNKNOWN, (x, c) -> x.toStrike(c));
        Edge.refusesBeyond(SIXTEEN_WORDS, 0, 5, "toStrike in a quarrel", UNKNOWN, (x, c) -> x.toStrike(c));
        due("in a quarrel beside", sixteenWords().toStrike(5), 0);
    }
}
