/** The edges that the document names in its part 3 (RUNS, CHOICES) and in promises 9 to 12. */
public final class EdgeRunsTest {
    private static final int NONE = Edge.NONE, UNKNOWN = Edge.UNKNOWN, OUTSIDE = Edge.OUTSIDE, QUARREL = Edge.QUARREL;
    private static final int MIN = Edge.MIN, MAX = Edge.MAX;

    private static final Edge.Maker VILLAGE = Edge.VILLAGE;
    private static final Edge.Maker QUARRELSOME = Edge.QUARRELSOME;

    private static void says(String where, String words) {
        Edge.says(where, words);
    }

    private static void due(String call, long got, long want) {
        Edge.due(call, got, want);
    }

    public static void main(String[] args) {
        pushAtFirst();
        pushAtFirstOfEachRun();
        comesToTheLowest();
        passes();
        passesByFlow();
        flowBehindDraining();
        grows();
        growsOnlyIfWet();
        growsNoMore();
        letsGo();
        drains();
        drainsAllAtOnce();
        halfIsCut();
        halfGoesOneUp();
        halfNeedsWet();
        halfNeedsNotLetGo();
        letsGoByDraining();
        staysLetGo();
        afterMoreTimes();
        drainingAlone();
        drainingAloneOfEachShake();
        steps();
        weightsMultiplied();
        choicesInOrder();
        theFirst();
        runAnswers();
        runRefusals();
        choicesHowMany();
        choicesOfFullColumns();
        choicesKept();
        choicesFirstKept();
        choicesWithValue();
        choicesRefusals();
        oddsAnswers();
        oddsByTheSameRuns();
        oddsInLeastTerms();
        oddsRefusals();
        stepLeast();
        stepGreatest();
        stepRefusals();
        Edge.end();
    }

    /** A LAYER of KIND 0 that takes strength as it is, with a SHAKE of these BEATS. */
    private static SoupSand meter(String rules, int... beats) {
        SoupSand x = Edge.ruled(rules);
        Edge.meters(x, 1);
        Edge.shakeOf(x, 0, beats);
        return x;
    }

    /** Two such LAYERS, the lower one of KIND 1. */
    private static SoupSand twoMeters(String rules, int... beats) {
        SoupSand x = Edge.ruled(rules);
        x.layer(0, 0, 2, 9);
        x.layer(0, 1, 2, 27);
        Edge.shakeOf(x, 0, beats);
        return x;
    }

    // ---- part 3: runs

    private static void pushAtFirst() {
        says("Part 3", "PUSH of all is 0 at first.");
        SoupSand x = meter("kind 0 grow 10 drain 0;");
        due("without BEATS", x.run(0, 0, 0, 0), 0);
        due("without BEATS, the STEP", x.run(0, 0, 0, 1), NONE);
        x.beat(0, 7);
        due("by one BEAT", x.run(0, 0, 0, 0), 7);
        due("asked again, not twice as much", x.run(0, 0, 0, 0), 7);
        SoupSand y = meter("kind 0 grow 10 drain 0;after 30;");
        due("without BEATS, with DRAINING", y.run(0, 0, 0, 0), 0);
    }

    private static void pushAtFirstOfEachRun() {
        says("Part 3", "A RUN of a SHAKE on a COLUMN, with a value of LOOSE for each LAYER: PUSH of all is 0 at first.");
        SoupSand x = Edge.ruled("kind 0 grow 10 drain 500 pass 100;after 2;");
        Edge.meters(x, 6);
        for (int c = 1; c < 6; c++) {
            for (int k = 0; k < c; k++) x.layer(c, 0, 2, 9 + 18 * k);
        }
        Edge.shakeOf(x, 0, 800, 800);
        Edge.shakeOf(x, 0, 8);
        // what comes up in the RUN ahead is not there: 8, 4, 2, 1 in the lowest LAYER
        for (int c = 1; c < 6; c++) {
            x.run(0, 0, 0, 0);
            due("the lowest of " + c + " LAYERS, behind a RUN of six", x.run(c, 1, c - 1, 0), 1);
        }
    }

    private static void comesToTheLowest() {
        says("Part 3", "For each BEAT: its strength comes to the lowest LAYER");
        SoupSand x = Edge.ruled("kind 0 grow 10 drain 0 pass 0;");
        Edge.meters(x, 6);
        Edge.shakeOf(x, 0, 999);
        due("the lowest of six", x.run(0, 0, 5, 0), 999);
        due("the one above it", x.run(0, 0, 4, 0), 0);
        due("the topmost", x.run(0, 0, 0, 0), 0);
    }

    private static void passes() {
        says("Part 3", "each LAYER passes strength times pass / 100 to the one above it");
        SoupSand x = twoMeters("kind 0 grow 10 drain 0;kind 1 grow 0 pass 100;", 999);
        due("pass 100", x.run(0, 0, 0, 0), 999);
        x = twoMeters("kind 0 grow 10 drain 0;kind 1 grow 0 pass 0;", 999);
        due("pass 0", x.run(0, 0, 0, 0), 0);
        x = twoMeters("kind 0 grow 10 drain 0;kind 1 grow 0 pass 99;", 1);
        due("pass 99 of 1", x.run(0, 0, 0, 0), 0);
        x = twoMeters("kind 0 grow 10 drain 0;kind 1 grow 0 pass 99;", 101);
        due("pass 99 of 101", x.run(0, 0, 0, 0), 99);
        x = twoMeters("kind 0 grow 10 drain 0;kind 1 grow 0 pass 1;", 99, 100);
        due("pass 1 of 99, then of 100", x.run(0, 0, 0, 0), 1);
        SoupSand y = Edge.ruled("kind 0 grow 10 drain 0;");
        Edge.meters(y, 3);
        Edge.shakeOf(y, 0, 999);
        due("999 times 90 / 100", y.run(0, 0, 1, 0), 899);
        due("cut, then times 90 / 100 again", y.run(0, 0, 0, 0), 809);
    }

    private static void passesByFlow() {
        says("Part 3", "(flow in the place of pass, if it has LET GO ahead of this BEAT)");
        String rules = "kind 0 grow 10 drain 0;kind 1 grow 99 drain 0 pass 70;";
        int[] flows = {0, 1, 100};
        int[] firstAndSecond = {140, 141, 240};
        for (int i = 0; i < 3; i++) {
            SoupSand x = twoMeters(rules + "flow " + flows[i] + ";", 200);
            due("it LETS GO in the first BEAT", x.run(0, 0, 1, 1), 0);
            due("in this BEAT pass still, flow " + flows[i], x.run(0, 0, 0, 0), 140);
            x.beat(0, 100);
            due("in the next BEAT flow " + flows[i], x.run(0, 0, 0, 0), firstAndSecond[i]);
        }
    }

    private static void flowBehindDraining() {
        says("Part 3", "if it has LET GO ahead of this BEAT");
        SoupSand x = Edge.ruled("kind 0 grow 10 drain 0;kind 1 grow 25 drain 0 pass 100;kind 2 grow 99 drain 999 pass 100;flow 50;");
        x.layer(0, 0, 2, 9);
        x.layer(0, 1, 2, 100);
        x.layer(0, 2, 2, 100);
        Edge.shakeOf(x, 0, 60);
        // the middle one: 60 * 100 * 25 / 270 = 555, and half of 999 from below
        due("the middle one LETS GO by DRAINING", x.run(0, 0, 1, 1), 0);
        due("it has passed the first BEAT whole", x.run(0, 0, 0, 0), 60);
        x.beat(0, 100);
        due("100 times flow twice", x.run(0, 0, 0, 0), 60 + 25);
    }

    private static void grows() {
        says("Part 3", "grows by strength times LOOSE times grow / (10 times HOLD)");
        int[] strength = {44, 45, 89, 90};
        int[] push = {0, 1, 1, 2};
        for (int i = 0; i < 4; i++) {
            SoupSand x = Edge.ruled("kind 0 grow 10 drain 0;");
            x.layer(0, 0, 10, 1);
            Edge.shakeOf(x, 0, strength[i]);
            due(strength[i] + " * 1 * 10 / 450", x.run(0, 0, 0, 0), push[i]);
        }
        SoupSand y = Edge.ruled("kind 0 grow 99 drain 0;kind 1 grow 0;wet 1;");
        y.layer(0, 0, 1, 0);
        y.layer(1, 1, 1, 100);
        y.layer(2, 0, 1, 100);
        Edge.shakeOf(y, 0, 999);
        due("LOOSE 0", y.run(0, 0, 0, 0), 0);
        due("grow 0", y.run(1, 0, 0, 0), 0);
        due("the most there is: 999 * 100 * 99 / 10", y.run(2, 0, 0, 0), 1000);
        SoupSand z = Edge.ruled("kind 0 grow 99 drain 0;wet 99;");
        for (int k = 0; k < 6; k++) z.layer(0, 0, 60, 100);
        Edge.shakeOf(z, 0, 999);
        due("by the greatest HOLD: 9890100 / 326700", z.run(0, 0, 5, 0), 30);
    }

    private static void growsOnlyIfWet() {
        says("Part 3", "Then PUSH of each WET LAYER");
        SoupSand x = Edge.ruled("kind 0 grow 99 drain 0 pass 100;");
        Edge.meters(x, 3);
        x.column(0, 1, 2);
        Edge.shakeOf(x, 0, 999);
        due("a dry one", x.run(0, 0, 0, 0), 0);
        due("a dry one, the STEP", x.run(0, 0, 0, 1), NONE);
        due("the WET one right below", x.run(0, 0, 1, 1), 0);
        x.column(0, 1, 400);
        due("all dry", x.run(0, 0, 2, 0), 0);
        due("all dry, the STEP", x.run(0, 0, 2, 1), NONE);
    }

    private static void growsNoMore() {
        says("Part 3", "that has not LET GO grows");
        SoupSand x = meter("kind 0 grow 99 drain 500;", 999);
        due("it has LET GO", x.run(0, 0, 0, 0), 500);
        x.beat(0, 999);
        due("it grows no more", x.run(0, 0, 0, 0), 250);
    }

    private static void letsGo() {
        says("Part 3", "at 1000 it has LET GO (PUSH is 1000 at most).");
        SoupSand x = meter("kind 0 grow 10 drain 0;", 999);
        due("at 999", x.run(0, 0, 0, 1), NONE);
        x.beat(0, 0);
        due("at 999 still", x.run(0, 0, 0, 1), NONE);
        x.beat(0, 1);
        due("at 1000", x.run(0, 0, 0, 1), 2);
        due("PUSH at 1000", x.run(0, 0, 0, 0), 1000);
        SoupSand y = meter("kind 0 grow 10 drain 0;", 999, 999);
        due("PUSH beyond 1000", y.run(0, 0, 0, 0), 1000);
        due("the STEP", y.run(0, 0, 0, 1), 1);
        SoupSand z = meter("kind 0 grow 10 drain 1;", 999, 1);
        // 999 loses 0
        due("at 1000, ahead of DRAINING", z.run(0, 0, 0, 1), 1);
        due("then 1 drains", z.run(0, 0, 0, 0), 999);
    }

    private static void drains() {
        says("Part 3", "each WET LAYER loses PUSH times drain / 1000");
        due("999 by drain 0", meter("kind 0 grow 10 drain 0;", 999).run(0, 0, 0, 0), 999);
        due("999 by drain 1", meter("kind 0 grow 10 drain 1;", 999).run(0, 0, 0, 0), 999);
        due("1000 by drain 1", meter("kind 0 grow 99 drain 1;", 999).run(0, 0, 0, 0), 999);
        due("999 by drain 2", meter("kind 0 grow 10 drain 2;", 999).run(0, 0, 0, 0), 998);
        due("1 by drain 999", meter("kind 0 grow 10 drain 999;", 1).run(0, 0, 0, 0), 1);
        due("2 by drain 999", meter("kind 0 grow 10 drain 999;", 2).run(0, 0, 0, 0), 1);
        due("999 by drain 999", meter("kind 0 grow 10 drain 999;", 999).run(0, 0, 0, 0), 1);
        due("1000 by drain 999", meter("kind 0 grow 99 drain 999;", 999).run(0, 0, 0, 0), 1);
    }

    private static void drainsAllAtOnce() {
        says("Part 3", "(all by PUSH as it is then;");
        SoupSand x = Edge.ruled("kind 0 grow 10 drain 500 pass 100;");
        Edge.meters(x, 3);
        Edge.shakeOf(x, 0, 100);
        int[] once = {75, 75, 50};
        for (int k = 0; k < 3; k++) due("LAYER " + k + " by one DRAINING", x.run(0, 0, k, 0), once[k]);
        Edge.readText(x, "kind 0 grow 10 drain 500 pass 100;after 1;");
        int[] twice = {38 + 18, 38 + 12, 25};
        for (int k = 0; k < 3; k++) due("LAYER " + k + " by two", x.run(0, 0, k, 0), twice[k]);
    }

    private static void halfIsCut() {
        says("Part 3", "half of that (cut) comes to the LAYER right above it");
        int[] strength = {1, 2, 3, 4, 5, 999};
        int[] half = {0, 0, 1, 1, 2, 499};
        for (int i = 0; i < 6; i++) {
            SoupSand x = twoMeters("kind 0 grow 0 drain 0;kind 1 grow 10 drain 999;", strength[i]);
            due("below", x.run(0, 0, 1, 0), 1);
            due("half of what " + strength[i] + " loses", x.run(0, 0, 0, 0), half[i]);
        }
    }

    private static void halfGoesOneUp() {
        says("Part 3", "comes to the LAYER right above it");
        SoupSand x = Edge.ruled("kind 0 grow 0 drain 0;kind 1 grow 10 drain 500;");
        x.layer(0, 0, 2, 9);
        x.layer(0, 0, 2, 9);
        x.layer(0, 1, 2, 45);
        Edge.shakeOf(x, 0, 400);
        due("right above", x.run(0, 0, 1, 0), 100);
        due("two above", x.run(0, 0, 0, 0), 0);
        due("what the topmost loses goes nowhere", meter("kind 0 grow 10 drain 500;", 400).run(0, 0, 0, 0), 200);
    }

    private static void halfNeedsWet() {
        says("Part 3", "comes to the LAYER right above it, if that is WET");
        SoupSand x = Edge.ruled("kind 0 grow 0 drain 0;kind 1 grow 10 drain 500;");
        x.layer(0, 0, 2, 9);
        x.layer(0, 1, 2, 45);
        x.column(0, 1, 1);
        Edge.shakeOf(x, 0, 400);
        // HOLD below a dry one is 36 + 9
        due("the WET one drains", x.run(0, 0, 1, 0), 200);
        due("nothing comes to a dry one", x.run(0, 0, 0, 0), 0);
    }

    private static void halfNeedsNotLetGo() {
        says("Part 3", "if that is WET and has not LET GO");
        SoupSand x = Edge.ruled("kind 0 grow 99 drain 999;kind 1 grow 10 drain 100 pass 100;after 1;");
        x.layer(0, 0, 2, 100);
        x.layer(0, 1, 2, 27);
        Edge.shakeOf(x, 0, 999);
        due("it has LET GO", x.run(0, 0, 0, 1), 0);
        due("nothing comes to it, in this STEP or the next", x.run(0, 0, 0, 0), 1);
        due("below it drains all the same", x.run(0, 0, 1, 0), 999 - 99 - 90);
    }

    private static void letsGoByDraining() {
        says("Part 3", "at 1000 it has LET GO likewise");
        String rules = "kind 0 grow 10 drain 0;kind 1 grow 10 drain 400 pass 100;";
        SoupSand x = twoMeters(rules, 833);
        due("833 and 166", x.run(0, 0, 0, 0), 999);
        due("it has not LET GO", x.run(0, 0, 0, 1), NONE);
        x = twoMeters(rules, 834);
        due("834 and 166", x.run(0, 0, 0, 0), 1000);
        due("it has LET GO", x.run(0, 0, 0, 1), 0);
        x = twoMeters(rules, 999);
        due("999 and 199, 1000 at most", x.run(0, 0, 0, 0), 1000);
        due("it has LET GO, too", x.run(0, 0, 0, 1), 0);
        due("the lower one has not", x.run(0, 0, 1, 1), NONE);
    }

    private static void staysLetGo() {
        says("Part 3", "What has LET GO stays so, its PUSH drains on.");
        SoupSand x = meter("kind 0 grow 99 drain 999;after 30;", 999);
        due("PUSH", x.run(0, 0, 0, 0), 1);
        due("the STEP", x.run(0, 0, 0, 1), 0);
        due("it LETS GO by all", x.odds(0, 0, 0, 0), 1);
        Edge.beats(x, 0, 29, 0);
        due("the STEP, many BEATS behind", x.run(0, 0, 0, 1), 0);
        SoupSand y = meter("kind 0 grow 99 drain 500;", 0, 999, 0, 0);
        due("1000 by halves", y.run(0, 0, 0, 0), 125);
        due("the STEP of a later BEAT", y.run(0, 0, 0, 1), 1);
    }

    private static void afterMoreTimes() {
        says("Part 3", "Behind the last BEAT come after more times of DRAINING alone.");
        String rules = "kind 0 grow 99 drain 500;after ";
        due("after 0", meter(rules + "0;", 999).run(0, 0, 0, 0), 500);
        due("after 1", meter(rules + "1;", 999).run(0, 0, 0, 0), 250);
        due("after 3", meter(rules + "3;", 999).run(0, 0, 0, 0), 63);
        due("after 30", meter(rules + "30;", 999).run(0, 0, 0, 0), 1);
    }

    private static void drainingAlone() {
        says("Part 3", "DRAINING alone");
        SoupSand x = meter("kind 0 grow 10 drain 0;after 30;", 100);
        due("nothing grows behind the last BEAT", x.run(0, 0, 0, 0), 100);
        due("nothing LETS GO", x.run(0, 0, 0, 1), NONE);
    }

    private static void drainingAloneOfEachShake() {
        says("Part 3", "Behind the last BEAT come after more times");
        SoupSand x = meter("kind 0 grow 10 drain 0;after 30;", 300, 200, 100, 50);
        Edge.shakeOf(x, 0, 7);
        Edge.shakeOf(x, 0, 7, 8);
        x.shake(0);
        due("four BEATS", x.run(0, 0, 0, 0), 650);
        due("one BEAT, behind a RUN of four", x.run(0, 1, 0, 0), 7);
        x.run(0, 0, 0, 0);
        due("two BEATS, behind a RUN of four", x.run(0, 2, 0, 0), 15);
        x.run(0, 0, 0, 0);
        due("no BEAT, behind a RUN of four", x.run(0, 3, 0, 0), 0);
        SoupSand y = twoMeters("kind 0 grow 10 drain 0;kind 1 grow 10 drain 0 pass 100;after 30;");
        Edge.beats(y, 0, 30, 10);
        due("thirty BEATS, below", y.run(0, 0, 1, 0), 300);
        due("thirty BEATS, above", y.run(0, 0, 0, 0), 300);
    }

    private static void steps() {
        says("Part 3", "STEPS are BEATS, then these, from 0 on.");
        // a LAYER that loses 2 each time gives 1 to the one above: 31 times from the last BEAT on
        String rules = "kind 0 grow 10 drain 0;kind 1 grow 10 drain 3 pass 100;after ";
        int[] lastBeat = new int[30];
        lastBeat[29] = 969;
        SoupSand x = twoMeters(rules + "30;", lastBeat);
        due("969 and 31", x.run(0, 0, 0, 0), 1000);
        due("the last STEP there can be", x.run(0, 0, 0, 1), 59);
        due("of the least", x.step(0, 0, 0, 0), 59);
        lastBeat[29] = 968;
        due("968 and 31", twoMeters(rules + "30;", lastBeat).run(0, 0, 0, 1), NONE);
        lastBeat[29] = 969;
        due("969 and 30", twoMeters(rules + "29;", lastBeat).run(0, 0, 0, 1), NONE);
        lastBeat[29] = 999;
        due("999 and 1", twoMeters(rules + "30;", lastBeat).run(0, 0, 0, 1), 29);
        lastBeat[29] = 998;
        due("998 and 2: the first STEP behind thirty BEATS", twoMeters(rules + "30;", lastBeat).run(0, 0, 0, 1), 30);
        due("998 and 2: the first STEP behind one BEAT", twoMeters(rules + "30;", 998).run(0, 0, 0, 1), 1);
        due("the first STEP of all", twoMeters(rules + "0;", 999).run(0, 0, 0, 1), 0);
        SoupSand y = Edge.ruled("kind 0 grow 0 drain 0;kind 1 grow 10 drain 3;after 30;");
        for (int k = 0; k < 5; k++) y.layer(5, 0, 2, 0);
        y.layer(5, 1, 2, 99);
        y.shake(0);
        Edge.beats(y, 0, 29, 0);
        y.beat(0, 969);
        due("sixty STEPS of six LAYERS, the lowest", y.run(5, 0, 5, 0), 969 - 62);
        due("sixty STEPS of six LAYERS, the one above", y.run(5, 0, 4, 0), 31);
    }

    // ---- part 3: choices

    private static void weightsMultiplied() {
        says("Part 3", "its WEIGHT: theirs multiplied.");
        SoupSand x = Edge.ruled("kind 0 grow 10 drain 0 pass 100;kind 1 grow 99 drain 0 pass 100;flow 0;");
        x.layer(0, 0, 2, 9);
        for (int k = 1; k < 6; k++) x.layer(0, 1, 1, 100);
        for (int k = 0; k < 6; k++) {
            x.loose(0, k, 0, 9);
            x.loose(0, k, 1, 9);
        }
        Edge.shakeOf(x, 0, 600, 600);
        // the topmost one LETS GO by its first value, if no other one has LET GO ahead of the second BEAT
        due("1 * 18 * 18 * 18 * 18 * 18", x.odds(0, 0, 0, 0), 1889568);
        due("of 19 * 19 * 19 * 19 * 19 * 19", x.odds(0, 0, 0, 1), 47045881);
    }

    private static void choicesInOrder() {
        says("Part 3", "CHOICES by rows of values as told, the topmost LAYER's first.");
        int[][] places = {{0, 0, 0, 0}, {0, 0, 1, 1}, {0, 1, 0, 2}, {0, 2, 1, 5}, {1, 0, 0, 6}, {1, 2, 0, 10}, {1, 2, 1, 11}};
        int[][] told = {{9, 3}, {5, 8, 1}, {7, 2}};
        for (int[] row : places) {
            SoupSand x = new SoupSand();
            for (int k = 0; k < 3; k++) {
                x.layer(0, 0, 1, told[k][0]);
                for (int j = 1; j < told[k].length; j++) x.loose(0, k, told[k][j], 1);
            }
            for (int k = 0; k < 3; k++) x.word(0, 2, k, told[k][row[k]], told[k][row[k]]);
            due("one is KEPT", x.choices(0, 1, 0, 0), 1);
            due("its place", x.choices(0, 2, 0, 0), row[3]);
        }
    }

    private static void theFirst() {
        says("Part 3", "THE FIRST one has all first values.");
        SoupSand x = Edge.ruled("kind 0 grow 10 drain 0 pass 100;");
        Edge.meters(x, 2);
        x.loose(0, 0, 0, 9);
        x.loose(0, 1, 0, 9);
        Edge.shakeOf(x, 0, 300);
        x.word(0, 2, 0, 0, 0);
        due("of the upper, though barred", x.run(0, 0, 0, 0), 300);
        due("of the lower", x.run(0, 0, 1, 0), 300);
        SoupSand y = Edge.ruled("kind 0 grow 10 drain 0 settle 50;mark 1;");
        y.layer(0, 0, 2, 1);
        y.loose(0, 0, 9, 1);
        y.loose(0, 0, 2, 1);
        y.house(0, 1, 1);
        Edge.shakeOf(y, 0, 900, 100);
        due("the HOUSE is SUNK by the second", y.stands(0), 0);
        due("behind that still THE FIRST: 100 and 11", y.run(0, 0, 0, 0), 111);
        due("behind that still the first place", y.choices(0, 2, 0, 0), 0);
    }

    // ---- promises 9 to 12

    private static void runAnswers() {
        says("Promise 9", "THE FIRST CHOICE's RUN, of a LAYER: what = 0 PUSH at the end, 1 the STEP in which it LETS GO (NONE).");
        SoupSand x = meter("kind 0 grow 10 drain 0;", 500, 499);
        due("PUSH at the end", x.run(0, 0, 0, 0), 999);
        due("NONE", x.run(0, 0, 0, 1), NONE);
        x.beat(0, 1);
        due("PUSH", x.run(0, 0, 0, 0), 1000);
        due("the STEP", x.run(0, 0, 0, 1), 2);
    }

    private static void runRefusals() {
        says("Promise 9", "1 the STEP in which it LETS GO (NONE). UNKNOWN, OUTSIDE.");
        Edge.refusesBeyond(VILLAGE, 0, 1, "SHAKE", UNKNOWN, (x, q) -> x.run(0, q, 0, 0));
        Edge.refusesBeyond(VILLAGE, 0, 2, "LAYER", UNKNOWN, (x, k) -> x.run(0, 0, k, 0));
        Edge.refusesBeyond(VILLAGE, 0, 1, "what", OUTSIDE, (x, v) -> x.run(0, 0, 0, v));
        Edge.refuses(VILLAGE, "LAYER of a COLUMN without", UNKNOWN, x -> x.run(2, 0, 0, 0));
        Edge.refuses(VILLAGE, "COLUMN 6, what 2", UNKNOWN, x -> x.run(6, 0, 0, 2));
        Edge.refuses(VILLAGE, "SHAKE 2, what 2", UNKNOWN, x -> x.run(0, 2, 0, 2));
        Edge.refuses(VILLAGE, "LAYER 3, what -1", UNKNOWN, x -> x.run(0, 0, 3, -1));
        due("in a quarrel", QUARRELSOME.make().run(0, 0, 1, 0), 729);
    }

    private static void choicesHowMany() {
        says("Promise 10", "CHOICES of a COLUMN: what = 0 how many");
        SoupSand x = new SoupSand();
        due("without LAYERS", x.choices(0, 0, 0, 0), 1);
        int[] many = {3, 9, 27, 81, 243, 729};
        for (int k = 0; k < 6; k++) {
            x.layer(0, 0, 1, 0);
            x.loose(0, k, 1, 1);
            x.loose(0, k, 2, 1);
            due(k + 1 + " LAYERS of three values", x.choices(0, 0, 0, 0), many[k]);
        }
        x.word(0, 2, 0, 100, 100);
        due("barred ones are CHOICES, too", x.choices(0, 0, 0, 0), 729);
    }

    private static void choicesOfFullColumns() {
        says("Promise 10", "CHOICES of a COLUMN: what = 0 how many, 1 KEPT, 2 the first KEPT one's place among all (NONE)");
        SoupSand x = new SoupSand();
        for (int c = 0; c < 6; c++) {
            for (int k = 0; k < 6; k++) {
                x.layer(c, 0, 1, 0);
                x.loose(c, k, 1, 1);
                x.loose(c, k, 2, 1);
            }
            // in turn the last and the first of all CHOICES is barred
            x.word(c, 2, 5, c % 2, 1 + c % 2);
        }
        for (int i = 0; i < 12; i++) {
            int c = i < 6 ? i : 11 - i;
            due("of COLUMN " + c, x.choices(c, 0, 0, 0), 729);
            due("KEPT of COLUMN " + c, x.choices(c, 1, 0, 0), 486);
            due("the first KEPT of COLUMN " + c, x.choices(c, 2, 0, 0), c % 2);
            due("with the last value of the topmost, of COLUMN " + c, x.choices(c, 3, 0, 2), 162);
            due("barred of COLUMN " + c, x.bars(c), 243);
            // so that all are looked at anew, in the other order
            if (i == 5) x.column(0, 1, 1);
        }
    }

    private static void choicesKept() {
        says("Promise 10", "1 KEPT");
        SoupSand x = sixOfThree();
        due("all", x.choices(0, 1, 0, 0), 729);
        for (int k = 0; k < 6; k++) x.word(0, 2, k, 2, 2);
        due("one", x.choices(0, 1, 0, 0), 1);
        x.word(0, 2, 5, 0, 1);
        due("none", x.choices(0, 1, 0, 0), 0);
        SoupSand y = new SoupSand();
        due("the one CHOICE of a COLUMN without LAYERS", y.choices(5, 1, 0, 0), 1);
        y.shake(0);
        y.word(5, 0, 0, 0, 0);
        due("as QUIET says", y.choices(5, 1, 0, 0), 1);
        y.word(5, 1, 0, 0, 0);
        due("not as BOILED says", y.choices(5, 1, 0, 0), 0);
    }

    private static SoupSand sixOfThree() {
        SoupSand x = new SoupSand();
        for (int k = 0; k < 6; k++) {
            x.layer(0, 0, 1, 0);
            x.loose(0, k, 1, 9);
            x.loose(0, k, 2, 9);
        }
        return x;
    }

    private static void choicesFirstKept() {
        says("Promise 10", "2 the first KEPT one's place among all (NONE)");
        SoupSand x = sixOfThree();
        due("the first of all", x.choices(0, 2, 0, 0), 0);
        x.word(0, 2, 5, 1, 2);
        due("the second of all", x.choices(0, 2, 0, 0), 1);
        for (int k = 0; k < 6; k++) x.word(0, 2, k, 2, 2);
        due("the last of all", x.choices(0, 2, 0, 0), 728);
        x.word(0, 2, 0, 0, 1);
        due("none", x.choices(0, 2, 0, 0), NONE);
        due("without LAYERS", x.choices(1, 2, 0, 0), 0);
    }

    private static void choicesWithValue() {
        says("Promise 10", "3 how many KEPT ones have value j of LAYER k");
        SoupSand x = sixOfThree();
        due("the first of the topmost", x.choices(0, 3, 0, 0), 243);
        due("the last of the lowest", x.choices(0, 3, 5, 2), 243);
        x.word(0, 2, 5, 0, 1);
        due("a barred one", x.choices(0, 3, 5, 2), 0);
        due("one of two", x.choices(0, 3, 5, 0), 243);
        due("of another LAYER", x.choices(0, 3, 0, 2), 162);
        x.word(0, 2, 5, 2, 2);
        due("in a quarrel", x.choices(0, 3, 0, 0), 0);
    }

    private static void choicesRefusals() {
        says("Promise 10", "UNKNOWN (k, j: of 3 alone), OUTSIDE.");
        Edge.refusesBeyond(VILLAGE, 0, 2, "LAYER", UNKNOWN, (x, k) -> x.choices(0, 3, k, 0));
        Edge.refusesBeyond(VILLAGE, 0, 0, "one value", UNKNOWN, (x, j) -> x.choices(0, 3, 0, j));
        Edge.refusesBeyond(VILLAGE, 0, 1, "two values", UNKNOWN, (x, j) -> x.choices(0, 3, 1, j));
        Edge.refusesBeyond(VILLAGE, 0, 2, "three values", UNKNOWN, (x, j) -> x.choices(0, 3, 2, j));
        Edge.refusesBeyond(VILLAGE, 0, 3, "what", OUTSIDE, (x, v) -> x.choices(0, v, 0, 0));
        Edge.refuses(VILLAGE, "LAYER of a COLUMN without", UNKNOWN, x -> x.choices(2, 3, 0, 0));
        Edge.refuses(VILLAGE, "COLUMN 6, what 4", UNKNOWN, x -> x.choices(6, 4, 0, 0));
        Edge.refuses(VILLAGE, "what 4, LAYER and value that are not", OUTSIDE, x -> x.choices(0, 4, 9, 9));
        SoupSand y = VILLAGE.make();
        due("of 0 alike", y.choices(0, 0, MIN, MAX), 6);
        due("of 1 alike", y.choices(0, 1, -1, -1), 5);
        due("of 2 alike", y.choices(0, 2, 3, 3), 0);
    }

    private static void oddsAnswers() {
        says("Promise 11", "ODDS that a LAYER LETS GO in a SHAKE: what = 0 the upper, 1 the lower number.");
        SoupSand x = meter("kind 0 grow 10 drain 0;", 999);
        due("by none, upper", x.odds(0, 0, 0, 0), 0);
        due("by none, lower", x.odds(0, 0, 0, 1), 1);
        x.beat(0, 1);
        due("by all, upper", x.odds(0, 0, 0, 0), 1);
        due("by all, lower", x.odds(0, 0, 0, 1), 1);
        x.loose(0, 0, 0, 9);
        due("by some, upper", x.odds(0, 0, 0, 0), 1);
        due("by some, lower", x.odds(0, 0, 0, 1), 10);
        x.word(0, 2, 0, 0, 0);
        due("by no KEPT one, upper", x.odds(0, 0, 0, 0), 0);
        due("by no KEPT one, lower", x.odds(0, 0, 0, 1), 1);
        x.strike(0, true);
        x.word(0, 2, 0, 9, 9);
        due("by all KEPT ones, upper", x.odds(0, 0, 0, 0), 1);
        due("by all KEPT ones, lower", x.odds(0, 0, 0, 1), 1);
    }

    private static void oddsByTheSameRuns() {
        says("Promise 11", "ODDS that a LAYER LETS GO in a SHAKE");
        // 999 loses 0 by drain 1, and 1 by drain 2; then 1 comes
        for (int drain = 1; drain <= 2; drain++) {
            SoupSand x = meter("kind 0 grow 10 drain " + drain + ";", 999, 1);
            x.work(0, 0, 500, 1);
            x.work(0, 1, 100, 1);
            due("ODDS by drain " + drain, x.odds(0, 0, 0, 0), 2 - drain);
            due("the least STEP by drain " + drain, x.step(0, 0, 0, 0), drain == 1 ? 1 : NONE);
            due("THE FIRST's RUN by drain " + drain, x.run(0, 0, 0, 1), drain == 1 ? 1 : NONE);
        }
    }

    private static void oddsInLeastTerms() {
        says("Terms", "fractions are in least terms, the lower number above 0");
        SoupSand x = meter("kind 0 grow 10 drain 0;", 999, 999);
        x.loose(0, 0, 1, 3);
        due("1 of 4, upper", x.odds(0, 0, 0, 0), 1);
        due("1 of 4, lower", x.odds(0, 0, 0, 1), 4);
        x.loose(0, 0, 100, 2);
        due("3 of 6, upper", x.odds(0, 0, 0, 0), 1);
        due("3 of 6, lower", x.odds(0, 0, 0, 1), 2);
        SoupSand y = sixOfThree();
        Edge.shakeOf(y, 0, 0);
        due("0 of 19 * 19 * 19 * 19 * 19 * 19, upper", y.odds(0, 0, 0, 0), 0);
        due("0 of 19 * 19 * 19 * 19 * 19 * 19, lower", y.odds(0, 0, 0, 1), 1);
    }

    private static void oddsRefusals() {
        says("Promise 11", "what = 0 the upper, 1 the lower number. UNKNOWN, OUTSIDE, QUARREL.");
        Edge.refusesBeyond(VILLAGE, 0, 1, "SHAKE", UNKNOWN, (x, q) -> x.odds(0, q, 0, 0));
        Edge.refusesBeyond(VILLAGE, 0, 2, "LAYER", UNKNOWN, (x, k) -> x.odds(0, 0, k, 0));
        Edge.refusesBeyond(VILLAGE, 0, 1, "what", OUTSIDE, (x, v) -> x.odds(0, 0, 0, v));
        Edge.refuses(VILLAGE, "SHAKE 2, what 2", UNKNOWN, x -> x.odds(0, 2, 0, 2));
        Edge.refuses(QUARRELSOME, "in a quarrel, upper", QUARREL, x -> x.odds(0, 0, 1, 0));
        Edge.refuses(QUARRELSOME, "in a quarrel, lower", QUARREL, x -> x.odds(0, 0, 1, 1));
        Edge.refuses(QUARRELSOME, "in a quarrel, what 2", OUTSIDE, x -> x.odds(0, 0, 1, 2));
        Edge.refuses(QUARRELSOME, "in a quarrel, LAYER 3", UNKNOWN, x -> x.odds(0, 0, 3, 0));
        Edge.refuses(QUARRELSOME, "in a quarrel, SHAKE 2, what 2", UNKNOWN, x -> x.odds(0, 2, 1, 2));
        due("of a COLUMN beside", QUARRELSOME.make().odds(1, 0, 0, 1), 5);
    }

    private static void stepLeast() {
        says("Promise 12", "The STEP in which a LAYER LETS GO by KEPT CHOICES: what = 0 the least");
        SoupSand x = meter("kind 0 grow 10 drain 0;", 500, 500, 500);
        x.loose(0, 0, 18, 1);
        x.loose(0, 0, 0, 1);
        due("some do without", x.step(0, 0, 0, 0), 0);
        x.word(0, 2, 0, 0, 9);
        due("of KEPT ones", x.step(0, 0, 0, 0), 1);
        x.word(0, 2, 0, 0, 0);
        due("all do without", x.step(0, 0, 0, 0), NONE);
        x.strike(0, true);
        x.strike(1, true);
        x.shake(0);
        due("without BEATS", x.step(0, 1, 0, 0), NONE);
    }

    private static void stepGreatest() {
        says("Promise 12", "1 the greatest (NONE: some do without; of 0: all do)");
        SoupSand x = meter("kind 0 grow 10 drain 0;", 500, 500, 500);
        x.loose(0, 0, 18, 1);
        due("all LET GO", x.step(0, 0, 0, 1), 1);
        x.loose(0, 0, 0, 1);
        due("one does without", x.step(0, 0, 0, 1), NONE);
        x.word(0, 2, 0, 1, 100);
        due("that one is barred", x.step(0, 0, 0, 1), 1);
        x.word(0, 2, 0, 18, 18);
        due("of one KEPT", x.step(0, 0, 0, 1), 0);
        x.strike(0, true);
        x.strike(1, true);
        x.word(0, 2, 0, 0, 0);
        due("all do without", x.step(0, 0, 0, 1), NONE);
    }

    private static void stepRefusals() {
        says("Promise 12", "(NONE: some do without; of 0: all do). UNKNOWN, OUTSIDE, QUARREL.");
        Edge.refusesBeyond(VILLAGE, 0, 1, "SHAKE", UNKNOWN, (x, q) -> x.step(0, q, 0, 0));
        Edge.refusesBeyond(VILLAGE, 0, 2, "LAYER", UNKNOWN, (x, k) -> x.step(0, 0, k, 0));
        Edge.refusesBeyond(VILLAGE, 0, 1, "what", OUTSIDE, (x, v) -> x.step(0, 0, 0, v));
        Edge.refuses(VILLAGE, "LAYER 3, what 2", UNKNOWN, x -> x.step(0, 0, 3, 2));
        Edge.refuses(QUARRELSOME, "in a quarrel, least", QUARREL, x -> x.step(0, 0, 1, 0));
        Edge.refuses(QUARRELSOME, "in a quarrel, greatest", QUARREL, x -> x.step(0, 0, 1, 1));
        Edge.refuses(QUARRELSOME, "in a quarrel, what -1", OUTSIDE, x -> x.step(0, 0, 1, -1));
        Edge.refuses(QUARRELSOME, "in a quarrel, SHAKE 2", UNKNOWN, x -> x.step(0, 2, 1, 0));
    }
}
