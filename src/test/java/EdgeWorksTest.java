/** The edges that the document names in its part 6 (WORKS, THE PLAN, LOSS) and in promises 26 to 29. */
public final class EdgeWorksTest {
    private static final int NONE = Edge.NONE, UNKNOWN = Edge.UNKNOWN, OUTSIDE = Edge.OUTSIDE, FULL = Edge.FULL, QUARREL = Edge.QUARREL;
    private static final int DRAINS = 0, PILES = 1;

    private static final Edge.Maker BARE = Edge.BARE;
    private static final Edge.Maker VILLAGE = Edge.VILLAGE;
    private static final Edge.Maker QUARRELSOME = Edge.QUARRELSOME;
    private static final Edge.Maker SIX_WORKS = EdgeWorksTest::sixWorks;

    private static void says(String where, String words) {
        Edge.says(where, words);
    }

    private static void due(String call, long got, long want) {
        Edge.due(call, got, want);
    }

    public static void main(String[] args) {
        sixAtMost();
        prices();
        drainsMore();
        drainsAtMost();
        drainsBounds();
        pilesLess();
        pilesAtLeast();
        pilesBounds();
        worksOfItsColumn();
        planOfTheLeastPrice();
        planOfTheLeastSet();
        planForAll();
        lossIsCutEach();
        lossIsLong();
        workRefusals();
        standsAnswers();
        standsInFullColumns();
        standsUnknownBits();
        standsInAQuarrel();
        planAnswers();
        planRefusals();
        lossOfNothing();
        lossAtMost();
        lossInAQuarrel();
        Edge.end();
    }

    private static SoupSand sixWorks() {
        SoupSand x = Edge.VILLAGE.make();
        for (int w = 2; w < 6; w++) x.work(w % 2, w / 4, w, w);
        return x;
    }

    /** A LAYER that takes strength as it is; once it has LET GO, the HOUSE on it is SUNK. */
    private static SoupSand meter(int drain, int... beats) {
        SoupSand x = Edge.ruled("kind 0 grow 10 drain " + drain + " settle 50;mark 1;");
        Edge.meters(x, 1);
        x.house(0, 1, 1);
        Edge.shakeOf(x, 1000, beats);
        return x;
    }

    // ---- part 6

    private static void sixAtMost() {
        says("Part 6", "WORKS (6 at most)");
        SoupSand x = new SoupSand();
        for (int w = 0; w < 6; w++) due("WORK " + w, x.work(w, w % 2, 1, 1), w);
        for (int c = 0; c < 6; c++) due("a seventh, on COLUMN " + c, x.work(c, DRAINS, 1, 1), FULL);
        Edge.refuses(SIX_WORKS, "a seventh, DRAINS", FULL, y -> y.work(0, DRAINS, 500, 1));
        Edge.refuses(SIX_WORKS, "a seventh, PILES", FULL, y -> y.work(1, PILES, 100, 1));
    }

    private static void prices() {
        says("Part 6", "on a COLUMN for a PRICE (1 .. 999)");
        SoupSand x = meter(0, 999, 999);
        x.work(0, PILES, 100, 999);
        due("the greatest", x.plan(1), 999);
        x.work(0, PILES, 100, 1);
        due("the least", x.plan(1), 1);
        Edge.refusesBeyond(VILLAGE, 1, 999, "PRICE", OUTSIDE, (y, v) -> y.work(0, DRAINS, 1, v));
    }

    private static void drainsMore() {
        says("Part 6", "0 DRAINS: drain of its LAYERS is n more");
        // 999 loses 0 by drain 1 and 1 by drain 2; then 1 comes
        SoupSand x = meter(1, 999, 1);
        x.work(0, DRAINS, 1, 1);
        due("drain 1", x.stands(0), 0);
        due("drain 1 and 1 more", x.stands(1), 1);
        SoupSand y = meter(0, 999, 1);
        y.work(0, DRAINS, 1, 1);
        y.work(0, DRAINS, 1, 1);
        due("drain 0 and 1 more", y.stands(1), 0);
        due("drain 0 and 1 more, by the other", y.stands(2), 0);
        due("drain 0 and 2 more, by both", y.stands(3), 1);
    }

    private static void drainsAtMost() {
        says("Part 3", "drain is 1000 at most with WORKS");
        // 999 loses 998 by drain 999, and 999 by drain 1000; then 999 come
        SoupSand x = meter(999, 999, 999);
        x.work(0, DRAINS, 1, 1);
        x.work(0, DRAINS, 500, 1);
        due("drain 999", x.stands(0), 0);
        due("drain 1000", x.stands(1), 1);
        due("drain 1499", x.stands(2), 1);
        SoupSand y = Edge.ruled("kind 0 grow 0 drain 0 settle 50;kind 1 grow 10 drain 999 pass 0 settle 0;mark 1;");
        y.layer(0, 0, 2, 0);
        y.layer(0, 1, 2, 27);
        y.house(0, 1, 1);
        Edge.shakeOf(y, 0, 999);
        for (int w = 0; w < 6; w++) y.work(0, DRAINS, 500, 1);
        due("drain 3999: half of 999 comes up, not of 3995", y.stands(63), 1);
        due("by all SETS", y.plan(0), 0);
    }

    private static void drainsBounds() {
        says("Part 6", "is n more (1 .. 500; 1000 at most)");
        SoupSand x = meter(500, 999, 999);
        due("the least", x.work(0, DRAINS, 1, 1), 0);
        due("the greatest", x.work(0, DRAINS, 500, 1), 1);
        due("501 is not enough", x.stands(1), 0);
        due("1000 is", x.stands(2), 1);
        Edge.refusesBeyond(VILLAGE, 1, 500, "n of DRAINS", OUTSIDE, (y, v) -> y.work(0, DRAINS, v, 1));
    }

    private static void pilesLess() {
        says("Part 6", "1 PILES: all LOOSE n less");
        // by LOOSE 8 and grow 10: 999 * 8 * 10 / 90 = 888
        SoupSand x = meter(0, 999, 1);
        x.work(0, PILES, 1, 1);
        due("LOOSE 9", x.stands(0), 0);
        due("LOOSE 8", x.stands(1), 1);
        x.loose(0, 0, 10, 1);
        due("LOOSE 9 and 10, 1 less", x.stands(1), 0);
        x.work(0, PILES, 1, 1);
        due("LOOSE 9 and 10, 2 less", x.stands(3), 1);
        SoupSand y = Edge.ruled("kind 0 grow 10 drain 0 pass 100 settle 50;mark 1;");
        Edge.meters(y, 6);
        y.house(0, 60, 1);
        Edge.shakeOf(y, 0, 999, 1);
        y.work(0, PILES, 1, 1);
        due("of six LAYERS, 1 less: 8, 26 .. 98 LOOSE", y.stands(1), 1);
        due("none less", y.stands(0), 0);
    }

    private static void pilesAtLeast() {
        says("Part 6", "n less (1 .. 100; 0 at least)");
        // below: 999 * 99 * 13 / 1350 = 952 each BEAT, of which 951 drain; 475 of these come up
        for (int beats = 2; beats <= 3; beats++) {
            SoupSand x = Edge.ruled("kind 0 grow 99 drain 0 settle 99;kind 1 grow 13 drain 999 settle 0;mark 5;");
            x.layer(0, 0, 10, 0);
            x.layer(0, 1, 10, 100);
            x.house(0, 5, 1);
            x.shake(0);
            Edge.beats(x, 0, beats, 999);
            x.work(0, PILES, 1, 1);
            due("LOOSE 0 less 1, 475 times " + beats, x.stands(1), 3 - beats);
        }
    }

    private static void pilesBounds() {
        says("Part 6", "all LOOSE n less (1 .. 100;");
        SoupSand x = Edge.ruled("kind 0 grow 99 drain 0 settle 50;mark 1;wet 1;");
        x.layer(0, 0, 2, 100);
        x.house(0, 1, 1);
        Edge.shakeOf(x, 0, 999);
        x.work(0, PILES, 99, 1);
        x.work(0, PILES, 100, 2);
        x.work(0, PILES, 1, 2);
        due("LOOSE 1", x.stands(1), 0);
        due("LOOSE 0", x.stands(2), 1);
        due("LOOSE 100 less 99 less 1", x.stands(5), 1);
        due("LOOSE 100 less 200", x.stands(7), 1);
        Edge.refusesBeyond(VILLAGE, 1, 100, "n of PILES", OUTSIDE, (y, v) -> y.work(0, PILES, v, 1));
        Edge.refuses(VILLAGE, "101 of PILES is no n of theirs, though of DRAINS", OUTSIDE, y -> y.work(0, PILES, 101, 1));
    }

    private static void worksOfItsColumn() {
        says("Part 6", "WORKS (6 at most) on a COLUMN");
        SoupSand x = meter(0, 999, 999);
        for (int c = 1; c < 6; c++) x.work(c, PILES, 100, 1);
        due("on all others", x.stands(31), 0);
        x.work(0, PILES, 100, 1);
        due("on this one", x.stands(32), 1);
    }

    private static void planOfTheLeastPrice() {
        says("Part 6", "THE PLAN: the SET of WORKS, all PRICES together the least");
        SoupSand x = meter(0, 999, 999);
        x.work(0, PILES, 100, 10);
        due("the only one", x.plan(0), 1);
        x.work(0, PILES, 100, 9);
        due("1 less", x.plan(0), 2);
        x.work(0, DRAINS, 500, 4);
        x.work(0, DRAINS, 500, 4);
        // by drain 1000 nothing stays
        due("two together are 1 less again", x.plan(0), 12);
        due("their PRICE", x.plan(1), 8);
        x.work(0, PILES, 100, 8);
        due("another one of 8", x.plan(0), 12);
        x.work(0, PILES, 100, 7);
        due("the last one, 1 less", x.plan(0), 32);
        due("its PRICE", x.plan(1), 7);
    }

    private static void planOfTheLeastSet() {
        says("Part 6", "by any KEPT CHOICE; of like ones the least SET.");
        SoupSand x = meter(0, 999, 999);
        x.work(0, DRAINS, 500, 1);
        x.work(0, DRAINS, 500, 1);
        x.work(0, PILES, 100, 2);
        due("3 and 4 are like", x.plan(0), 3);
        SoupSand y = meter(0, 999, 999);
        y.work(0, PILES, 100, 2);
        y.work(0, DRAINS, 500, 1);
        y.work(0, DRAINS, 500, 1);
        due("1 and 6 are like", y.plan(0), 1);
    }

    private static void planForAll() {
        says("Part 6", "with which no HOUSE is SUNK in any SHAKE by any KEPT CHOICE");
        SoupSand x = new SoupSand();
        Edge.readText(x, "kind 0 grow 10 drain 0 settle 50;mark 1;");
        for (int c = 0; c < 6; c++) {
            x.layer(c, 0, 2, 0);
            x.work(c, PILES, 100, 999);
        }
        for (int h = 0; h < 7; h++) x.house(h % 5, 1, 0);
        for (int q = 0; q < 6; q++) x.shake(0);
        Edge.beats(x, 5, 2, 999);
        due("no LAYER LETS GO", x.plan(0), 0);
        x.loose(5, 0, 1, 1);
        x.loose(5, 0, 9, 1);
        due("one does, without a HOUSE", x.plan(0), 0);
        x.house(5, 1, 0);
        due("the last HOUSE in the last SHAKE by the last CHOICE", x.plan(0), 32);
        x.word(5, 2, 0, 0, 1);
        due("that CHOICE is barred", x.plan(0), 0);
        x.strike(0, true);
        for (int c = 0; c < 5; c++) x.loose(c, 0, 9, 9);
        due("all six are needed", x.plan(0), 63);
        due("the greatest PRICE there is", x.plan(1), 5994);
    }

    private static void lossIsCutEach() {
        says("Part 6", "LOSS a year: over all HOUSES and SHAKES SHARE times WORTH times ODDS that it is SUNK (each cut).");
        SoupSand x = Edge.ruled("kind 0 grow 10 drain 0 settle 50;mark 1;");
        Edge.meters(x, 1);
        x.loose(0, 0, 0, 2);
        Edge.shakeOf(x, 1, 999, 1);
        x.house(0, 1, 2);
        // ODDS 1 / 3
        due("2 / 3", x.loss(), 0);
        x.house(0, 1, 3);
        due("2 / 3 and 3 / 3", x.loss(), 1);
        x.house(0, 1, 5);
        due("2 / 3, 3 / 3 and 5 / 3", x.loss(), 2);
        Edge.shakeOf(x, 2, 999, 1);
        due("4 / 3, 6 / 3 and 10 / 3 more", x.loss(), 2 + 1 + 2 + 3);
        Edge.shakeOf(x, 1000, 999);
        due("a SHAKE in which it is not SUNK", x.loss(), 8);
    }

    private static void lossIsLong() {
        says("Promise 29", "LOSS a year.");
        SoupSand x = Edge.ruled("kind 0 grow 10 drain 0 pass 100 settle 50;kind 1 grow 99 drain 0 pass 100;flow 0;mark 1;");
        x.layer(0, 0, 2, 9);
        for (int k = 1; k < 6; k++) x.layer(0, 1, 1, 100);
        for (int k = 0; k < 6; k++) {
            x.loose(0, k, 0, 9);
            x.loose(0, k, 1, 9);
        }
        Edge.shakeOf(x, 1000, 600, 600);
        x.house(0, 1, 9999);
        // the topmost one LETS GO by its first value, if no other one has LET GO ahead of the second BEAT
        due("18 to the fifth of 19 to the sixth", x.loss(), 9999000L * 1889568 / 47045881);
    }

    // ---- promises 26 to 29

    private static void workRefusals() {
        says("Promise 26", "A WORK on a COLUMN: its number. UNKNOWN, OUTSIDE, FULL.");
        SoupSand x = new SoupSand();
        due("its number", x.work(5, PILES, 100, 999), 0);
        due("the next one's", x.work(0, DRAINS, 1, 1), 1);
        Edge.refusesBeyond(VILLAGE, 0, 1, "kind", OUTSIDE, (y, v) -> y.work(0, v, 1, 1));
        Edge.refuses(VILLAGE, "COLUMN 6, kind 2", UNKNOWN, y -> y.work(6, 2, 1, 1));
        Edge.refuses(VILLAGE, "COLUMN -1, n 0", UNKNOWN, y -> y.work(-1, DRAINS, 0, 1));
        Edge.refuses(VILLAGE, "COLUMN 6, PRICE 0", UNKNOWN, y -> y.work(6, DRAINS, 1, 0));
        Edge.refuses(SIX_WORKS, "COLUMN 6 of a seventh", UNKNOWN, y -> y.work(6, DRAINS, 1, 1));
        Edge.refuses(SIX_WORKS, "kind 2 of a seventh", OUTSIDE, y -> y.work(0, 2, 1, 1));
        Edge.refuses(SIX_WORKS, "n 501 of a seventh", OUTSIDE, y -> y.work(0, DRAINS, 501, 1));
        Edge.refuses(SIX_WORKS, "n 101 of a seventh", OUTSIDE, y -> y.work(0, PILES, 101, 1));
        Edge.refuses(SIX_WORKS, "PRICE 1000 of a seventh", OUTSIDE, y -> y.work(0, PILES, 1, 1000));
        Edge.refuses(SIX_WORKS, "a seventh", FULL, y -> y.work(0, PILES, 1, 1));
    }

    private static void standsAnswers() {
        says("Promise 27", "Whether no HOUSE is SUNK in any SHAKE by any KEPT CHOICE with a SET of WORKS: 1, 0.");
        SoupSand x = new SoupSand();
        due("nothing at all", x.stands(0), 1);
        x.house(0, 60, 1);
        due("a HOUSE without LAYERS or SHAKES", x.stands(0), 1);
        Edge.readText(x, "kind 0 grow 10 drain 0 settle 50;mark 1;");
        Edge.meters(x, 1);
        due("a HOUSE without SHAKES", x.stands(0), 1);
        x.shake(0);
        due("a SHAKE without BEATS", x.stands(0), 1);
        x.beat(0, 999);
        due("at 999", x.stands(0), 1);
        x.beat(0, 1);
        due("at 1000", x.stands(0), 0);
        x.work(0, PILES, 1, 1);
        due("the empty SET", x.stands(0), 0);
        due("the full SET", x.stands(1), 1);
        due("the empty SET is asked again", x.stands(0), 0);
    }

    private static void standsInFullColumns() {
        says("Promise 27", "with a SET of WORKS: 1, 0.");
        for (int on = 0; on < 6; on++) {
            SoupSand x = Edge.ruled("kind 0 grow 10 drain 0 settle 50;mark 1;");
            for (int c = 0; c < 6; c++) {
                x.layer(c, 0, 2, c == on ? 9 : 0);
                x.house(c, 1, 1);
            }
            Edge.shakeOf(x, 0, 999, 999);
            for (int w = 0; w < 6; w++) x.work(on, DRAINS, 1, 1);
            due("no SET of 64 on COLUMN " + on, x.plan(0), NONE);
            due("all six on COLUMN " + on, x.stands(63), 0);
        }
        SoupSand y = Edge.ruled("kind 0 grow 10 drain 0 settle 50;mark 1;");
        for (int c = 4; c < 6; c++) {
            y.layer(c, 0, 2, 9);
            y.house(c, 1, 1);
        }
        Edge.shakeOf(y, 0, 500, 500);
        // 500 loses 1 by drain 2, so that 999 is reached; five on COLUMN 4, one on COLUMN 5
        for (int w = 0; w < 4; w++) y.work(4, DRAINS, 1, 9);
        y.work(4, DRAINS, 500, 19);
        y.work(5, DRAINS, 2, 9);
        due("THE PLAN for both", y.plan(0), 3 + 32);
        due("its PRICE", y.plan(1), 27);
    }

    private static void standsUnknownBits() {
        says("Promise 27", "UNKNOWN (bits)");
        Edge.refuses(BARE, "bit 0 without WORKS", UNKNOWN, x -> x.stands(1));
        Edge.refusesBeyond(BARE, 0, 0, "no WORKS", UNKNOWN, (x, set) -> x.stands(set));
        Edge.refusesBeyond(VILLAGE, 0, 3, "two WORKS", UNKNOWN, (x, set) -> x.stands(set));
        Edge.refusesBeyond(SIX_WORKS, 0, 63, "six WORKS", UNKNOWN, (x, set) -> x.stands(set));
        for (int bit = 6; bit < 32; bit++) {
            int set = 1 << bit;
            due("bit " + bit, sixWorks().stands(set), UNKNOWN);
            due("bit " + bit + " and all WORKS", sixWorks().stands(set | 63), UNKNOWN);
        }
        Edge.refuses(VILLAGE, "bit 2 and those that there are", UNKNOWN, x -> x.stands(7));
    }

    private static void standsInAQuarrel() {
        says("Promise 27", "UNKNOWN (bits), QUARREL (in a COLUMN with a HOUSE).");
        Edge.refuses(QUARRELSOME, "the empty SET", QUARREL, x -> x.stands(0));
        Edge.refuses(QUARRELSOME, "all WORKS", QUARREL, x -> x.stands(3));
        Edge.refuses(QUARRELSOME, "bit 2", UNKNOWN, x -> x.stands(4));
        Edge.refuses(QUARRELSOME, "-1", UNKNOWN, x -> x.stands(-1));
        SoupSand y = meter(0, 999);
        y.layer(1, 0, 1, 0);
        y.word(1, 2, 0, 1, 1);
        due("in a COLUMN without a HOUSE", y.stands(0), 1);
        y.house(1, 1, 0);
        due("a HOUSE comes there", y.stands(0), QUARREL);
        y.strike(0, true);
        due("they do not QUARREL any more", y.stands(0), 1);
    }

    private static void planAnswers() {
        says("Promise 28", "THE PLAN: what = 0 the SET, 1 its PRICE; NONE: there is none.");
        SoupSand x = new SoupSand();
        due("nothing at all", x.plan(0), 0);
        due("nothing at all, PRICE", x.plan(1), 0);
        x = meter(0, 999, 1);
        due("no WORKS", x.plan(0), NONE);
        due("no WORKS, PRICE", x.plan(1), NONE);
        x.work(1, PILES, 100, 1);
        due("not the right one", x.plan(0), NONE);
        due("not the right one, PRICE", x.plan(1), NONE);
        x.work(0, PILES, 1, 5);
        due("the right one", x.plan(0), 2);
        due("the right one, PRICE", x.plan(1), 5);
        x.column(0, 1, 1);
        due("dry", x.plan(0), 0);
        due("dry, PRICE", x.plan(1), 0);
    }

    private static void planRefusals() {
        says("Promise 28", "NONE: there is none. OUTSIDE, QUARREL (likewise).");
        Edge.refusesBeyond(BARE, 0, 1, "what", OUTSIDE, (x, v) -> x.plan(v));
        Edge.refusesBeyond(SIX_WORKS, 0, 1, "what", OUTSIDE, (x, v) -> x.plan(v));
        Edge.refusesBeyond(QUARRELSOME, 0, 1, "what in a quarrel", OUTSIDE, (x, v) -> x.plan(v));
        Edge.refuses(QUARRELSOME, "the SET", QUARREL, x -> x.plan(0));
        Edge.refuses(QUARRELSOME, "the PRICE", QUARREL, x -> x.plan(1));
        SoupSand y = meter(0, 999);
        y.word(5, 1, 0, 0, 0);
        due("in a COLUMN without a HOUSE", y.plan(0), 0);
        y.house(5, 1, 0);
        due("a HOUSE comes there", y.plan(0), QUARREL);
    }

    private static void lossOfNothing() {
        says("Promise 29", "(What is told is otherwise 0 or more.)");
        SoupSand x = new SoupSand();
        due("nothing at all", x.loss(), 0);
        x.house(0, 1, 9999);
        due("without SHAKES", x.loss(), 0);
        x.shake(1000);
        due("without LAYERS", x.loss(), 0);
        SoupSand y = meter(0, 999);
        due("at 999", y.loss(), 0);
        y.beat(0, 1);
        due("at 1000", y.loss(), 1000);
    }

    private static void lossAtMost() {
        says("Promise 29", "LOSS a year. QUARREL, likewise.");
        SoupSand x = Edge.ruled("kind 0 grow 99 settle 99;mark 1;");
        for (int c = 0; c < 6; c++) x.layer(c, 0, 60, 100);
        for (int h = 0; h < 8; h++) x.house(h % 6, 60, 9999);
        for (int q = 0; q < 6; q++) Edge.shakeOf(x, 1000, 999, 999, 999);
        due("the greatest there is", x.loss(), 48L * 9999000);
    }

    private static void lossInAQuarrel() {
        says("Promise 29", "QUARREL, likewise.");
        Edge.refuses(QUARRELSOME, "in a COLUMN with a HOUSE", QUARREL, x -> x.loss());
        SoupSand y = meter(0, 999, 1);
        y.word(5, 1, 0, 0, 0);
        due("in a COLUMN without a HOUSE", y.loss(), 1000);
        y.house(5, 1, 0);
        due("a HOUSE of no WORTH comes there", y.loss(), QUARREL);
        y.strike(0, true);
        due("they do not QUARREL any more", y.loss(), 1000);
    }
}
