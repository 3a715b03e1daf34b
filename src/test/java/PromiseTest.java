/** One method for each promise of the document: ordinary inputs, the edges that it names, wrong inputs. */
public final class PromiseTest {
    private static final int NONE = -1, UNKNOWN = -1001, OUTSIDE = -1002, NOT = -1003, FULL = -1004, QUARREL = -1005;
    private static final int MIN = Integer.MIN_VALUE, MAX = Integer.MAX_VALUE;
    private static int wrong = 0;
    private static int asked = 0;

    private static void due(String what, long got, long want) {
        asked++;
        if (got == want) return;
        wrong++;
        System.out.println(what + " answered " + got + ", due is " + want);
    }

    private static void feedText(SoupSand x, String text) {
        for (int from = 0; from < text.length(); from += 8) {
            int to = Math.min(text.length(), from + 8);
            long bytes = 0;
            for (int i = from; i < to; i++) bytes = bytes << 8 | text.charAt(i);
            x.feed(to - from, bytes);
        }
    }

    private static int readText(SoupSand x, String text) {
        feedText(x, text);
        return x.read();
    }

    private static void beats(SoupSand x, int q, int many, int strength) {
        for (int i = 0; i < many; i++) x.beat(q, strength);
    }

    public static void main(String[] args) {
        newObject();
        column();
        layer();
        loose();
        about();
        shake();
        beat();
        count();
        run();
        runOfSeveralLayers();
        choices();
        odds();
        step();
        word();
        wordsFollowTheGround();
        strike();
        bars();
        toStrike();
        house();
        sink();
        sunk();
        led();
        lean();
        tank();
        floats();
        margin();
        least();
        work();
        stands();
        standsAtTheEdges();
        plan();
        loss();
        feed();
        read();
        readFaults();
        fault();
        rule();
        System.out.println(wrong == 0 ? "all " + asked + " answers are as due" : wrong + " answers are not as due");
        if (wrong != 0) System.exit(1);
    }

    // Promise 1
    private static void newObject() {
        SoupSand x = new SoupSand();
        for (int what = 0; what <= 8; what++) due("new: count(" + what + ")", x.count(what), 0);
        int[] first = {20, 50, 90, 10, 60};
        for (int what = 0; what < 20; what++) due("new: rule(" + what + ")", x.rule(what), first[what % 5]);
        int[] ofAll = {18, 9, 40, 5, 0};
        for (int i = 0; i < 5; i++) due("new: rule(" + (20 + i) + ")", x.rule(20 + i), ofAll[i]);
        due("new: fault()", x.fault(), NONE);
        due("new: loss()", x.loss(), 0);
        due("new: plan(0)", x.plan(0), 0);
        due("new: plan(1)", x.plan(1), 0);
        due("new: stands(0)", x.stands(0), 1);
        for (int c = 0; c < 6; c++) {
            due("new: about of " + c, x.about(c, 0, 0), UNKNOWN);
            due("new: choices of " + c, x.choices(c, 0, 0, 0), 1);
            due("new: first kept of " + c, x.choices(c, 2, 0, 0), 0);
            due("new: TOP of " + c, x.column(c, 0, 7), 500);
            due("new: WATER of " + c, x.column(c, 1, 7), 0);
        }
    }

    // Promise 2
    private static void column() {
        SoupSand x = new SoupSand();
        due("column TOP to 0", x.column(0, 0, 0), 500);
        due("column TOP to 999", x.column(0, 0, 999), 0);
        due("column TOP to 1000", x.column(0, 0, 1000), OUTSIDE);
        due("column TOP to -1", x.column(0, 0, -1), OUTSIDE);
        due("column TOP was", x.column(0, 0, 1), 999);
        due("column WATER to 400", x.column(0, 1, 400), 0);
        due("column WATER to 401", x.column(0, 1, 401), OUTSIDE);
        due("column WATER to -1", x.column(0, 1, -1), OUTSIDE);
        due("column WATER was", x.column(0, 1, 0), 400);
        due("column what 2", x.column(0, 2, 0), OUTSIDE);
        due("column what -1", x.column(0, -1, 0), OUTSIDE);
        due("column 6", x.column(6, 0, 0), UNKNOWN);
        due("column -1 ahead of OUTSIDE", x.column(-1, 2, -1), UNKNOWN);
        due("column of MIN", x.column(MIN, MIN, MIN), UNKNOWN);
        due("column of MAX", x.column(5, MAX, MAX), OUTSIDE);
        due("column 5 untouched", x.column(5, 0, 3), 500);
    }

    // Promise 3
    private static void layer() {
        SoupSand x = new SoupSand();
        due("layer kind -1", x.layer(0, -1, 1, 0), OUTSIDE);
        due("layer kind 4", x.layer(0, 4, 1, 0), OUTSIDE);
        due("layer thick 0", x.layer(0, 0, 0, 0), OUTSIDE);
        due("layer thick 61", x.layer(0, 0, 61, 0), OUTSIDE);
        due("layer loose -1", x.layer(0, 0, 1, -1), OUTSIDE);
        due("layer loose 101", x.layer(0, 0, 1, 101), OUTSIDE);
        due("layer column 6 ahead of OUTSIDE", x.layer(6, 9, 0, 0), UNKNOWN);
        due("layer column -1", x.layer(-1, 0, 1, 0), UNKNOWN);
        due("layers refused", x.count(0), 0);
        due("layer 0", x.layer(0, 0, 1, 0), 0);
        due("layer 1", x.layer(0, 3, 60, 100), 1);
        for (int k = 2; k < 6; k++) due("layer " + k, x.layer(0, 1, 10 + k, 50), k);
        due("layer 6", x.layer(0, 0, 1, 0), FULL);
        due("layer 6, OUTSIDE ahead of FULL", x.layer(0, 0, 61, 0), OUTSIDE);
        due("layer of another column", x.layer(5, 0, 1, 0), 0);
        due("layer 1 below layer 0", x.about(0, 1, 3), 1);
        due("layer 1 thick", x.about(0, 1, 1), 60);
        due("layers", x.count(0), 7);
    }

    // Promise 4
    private static void loose() {
        SoupSand x = new SoupSand();
        x.layer(2, 0, 10, 40);
        due("loose column", x.loose(6, 0, 1, 1), UNKNOWN);
        due("loose layer", x.loose(2, 1, -1, 1), UNKNOWN);
        due("loose layer -1", x.loose(2, -1, 1, 1), UNKNOWN);
        due("loose value -1", x.loose(2, 0, -1, 1), OUTSIDE);
        due("loose value 101", x.loose(2, 0, 101, 1), OUTSIDE);
        due("loose weight 0, ahead of NOT", x.loose(2, 0, 40, 0), OUTSIDE);
        due("loose weight 10", x.loose(2, 0, 41, 10), OUTSIDE);
        due("loose again", x.loose(2, 0, 40, 9), NOT);
        due("loose 2", x.loose(2, 0, 0, 9), 2);
        due("loose 3", x.loose(2, 0, 100, 1), 3);
        due("loose again, NOT ahead of FULL", x.loose(2, 0, 100, 1), NOT);
        due("loose 4", x.loose(2, 0, 50, 1), FULL);
        due("loose 4, OUTSIDE ahead of FULL", x.loose(2, 0, 50, 10), OUTSIDE);
        due("loose counts", x.about(2, 0, 2), 3);
    }

    // Promise 5
    private static void about() {
        SoupSand x = new SoupSand();
        x.layer(1, 3, 7, 40);
        x.layer(1, 2, 9, 40);
        x.layer(1, 1, 5, 40);
        x.column(1, 1, 7);
        due("about kind", x.about(1, 0, 0), 3);
        due("about thick", x.about(1, 1, 1), 9);
        due("about values", x.about(1, 1, 2), 1);
        due("about depth 0", x.about(1, 0, 3), 0);
        due("about depth 2", x.about(1, 2, 3), 16);
        due("about wet 0", x.about(1, 0, 4), 0);
        due("about wet 1, right at WATER", x.about(1, 1, 4), 1);
        due("about HOLD 0, dry", x.about(1, 0, 5), 63);
        due("about HOLD 1, cut", x.about(1, 1, 5), 126 + 40);
        due("about HOLD 2, cut", x.about(1, 2, 5), 126 + 81 + 22);
        x.column(1, 1, 8);
        due("about wet 1, above WATER", x.about(1, 1, 4), 0);
        due("about HOLD 2 with a dry one more", x.about(1, 2, 5), 126 + 162 + 22);
        due("about what 6", x.about(1, 0, 6), OUTSIDE);
        due("about what -1", x.about(1, 0, -1), OUTSIDE);
        due("about layer 3 ahead of OUTSIDE", x.about(1, 3, 6), UNKNOWN);
        due("about layer -1", x.about(1, -1, 0), UNKNOWN);
        due("about column 6", x.about(6, 0, 0), UNKNOWN);
        due("about column -1", x.about(-1, 0, 0), UNKNOWN);
        SoupSand y = new SoupSand();
        readText(y, "wet 1;");
        y.layer(0, 0, 1, 0);
        due("about HOLD is 1 at least", y.about(0, 0, 5), 1);
    }

    // Promise 6
    private static void shake() {
        SoupSand x = new SoupSand();
        due("shake -1", x.shake(-1), OUTSIDE);
        due("shake 1001", x.shake(1001), OUTSIDE);
        due("shake share 0", x.shake(0), 0);
        due("shake share 1000", x.shake(1000), 1);
        for (int q = 2; q < 6; q++) due("shake " + q, x.shake(5), q);
        due("shake 6", x.shake(5), FULL);
        due("shake 6, OUTSIDE ahead of FULL", x.shake(-1), OUTSIDE);
        due("shakes", x.count(1), 6);
        due("shakes have no beats", x.count(2), 0);
    }

    // Promise 7
    private static void beat() {
        SoupSand x = new SoupSand();
        due("beat of no shake", x.beat(0, 1), UNKNOWN);
        x.shake(1);
        x.shake(1);
        due("beat -1", x.beat(-1, 1), UNKNOWN);
        due("beat of shake 2 ahead of OUTSIDE", x.beat(2, -1), UNKNOWN);
        due("beat strength -1", x.beat(0, -1), OUTSIDE);
        due("beat strength 1000", x.beat(0, 1000), OUTSIDE);
        due("beat strength 0", x.beat(0, 0), 1);
        due("beat strength 999", x.beat(0, 999), 2);
        due("beat of another", x.beat(1, 5), 1);
        for (int n = 3; n <= 30; n++) due("beat " + n, x.beat(0, 5), n);
        due("beat 31", x.beat(0, 5), FULL);
        due("beat 31, OUTSIDE ahead of FULL", x.beat(0, 1000), OUTSIDE);
        due("beats", x.count(2), 31);
    }

    // Promise 8
    private static void count() {
        SoupSand x = new SoupSand();
        x.layer(0, 0, 10, 10);
        x.layer(0, 0, 10, 10);
        x.layer(5, 0, 10, 10);
        x.shake(1);
        x.shake(1);
        beats(x, 0, 3, 7);
        beats(x, 1, 2, 7);
        x.word(0, 0, 0, 0, 0);
        x.word(0, 1, 1, 0, 0);
        x.word(5, 2, 0, 0, 100);
        x.strike(1, true);
        x.strike(2, true);
        for (int i = 0; i < 4; i++) x.house(0, 1, 1);
        for (int i = 0; i < 5; i++) x.tank(0, 0, 1, 1);
        for (int i = 0; i < 6; i++) x.work(0, 0, 1, 1);
        x.feed(7, 0);
        int[] want = {3, 2, 5, 3, 2, 4, 5, 6, 7};
        for (int what = 0; what <= 8; what++) due("count(" + what + ")", x.count(what), want[what]);
        due("count(9)", x.count(9), OUTSIDE);
        due("count(-1)", x.count(-1), OUTSIDE);
        x.strike(1, false);
        due("count of STRUCK ones", x.count(4), 1);
        x.read();
        due("count of bytes once read", x.count(8), 0);
    }

    // Promise 9
    private static void run() {
        SoupSand x = new SoupSand();
        x.layer(0, 0, 10, 50);
        x.shake(0);
        due("run without beats", x.run(0, 0, 0, 0), 0);
        x.beat(0, 90);
        // HOLD 45: 90 * 50 * 20 / 450 = 200, of which 10 drain
        due("run of one beat", x.run(0, 0, 0, 0), 190);
        x.beat(0, 90);
        due("run of two beats", x.run(0, 0, 0, 0), 371);
        due("run has not let go", x.run(0, 0, 0, 1), NONE);
        x.shake(0);
        x.beat(1, 449);
        due("run just below 1000", x.run(0, 1, 0, 1), NONE);
        due("run just below 1000, push", x.run(0, 1, 0, 0), 997 - 49);
        x.shake(0);
        x.beat(2, 450);
        due("run at 1000", x.run(0, 2, 0, 1), 0);
        due("run at 1000, push", x.run(0, 2, 0, 0), 950);
        x.shake(0);
        x.beat(3, 0);
        x.beat(3, 999);
        x.beat(3, 999);
        due("run, push is 1000 at most and drains on", x.run(0, 3, 0, 0), 950 - 47);
        due("run lets go in step 1", x.run(0, 3, 0, 1), 1);
        x.column(0, 1, 1);
        due("run of a dry one", x.run(0, 3, 0, 0), 0);
        due("run of a dry one, step", x.run(0, 3, 0, 1), NONE);
        due("run column 6", x.run(6, 0, 0, 0), UNKNOWN);
        due("run column -1", x.run(-1, 0, 0, 0), UNKNOWN);
        due("run shake 4 ahead of OUTSIDE", x.run(0, 4, 0, 2), UNKNOWN);
        due("run shake -1", x.run(0, -1, 0, 0), UNKNOWN);
        due("run layer 1", x.run(0, 0, 1, 0), UNKNOWN);
        due("run layer -1", x.run(0, 0, -1, 0), UNKNOWN);
        due("run what 2", x.run(0, 0, 0, 2), OUTSIDE);
        due("run what -1", x.run(0, 0, 0, -1), OUTSIDE);
    }

    private static void runOfSeveralLayers() {
        SoupSand x = new SoupSand();
        readText(x, "kind 0 grow 10 drain 0; kind 1 grow 99 drain 500; after 1;");
        x.layer(0, 0, 10, 30);
        x.layer(0, 1, 10, 100);
        x.shake(0);
        x.beat(0, 999);
        // below: lets go at once, 1000 -> 500 -> 250. above: 899 * 30 * 10 / 450 = 599, then 250, then 125
        due("below", x.run(0, 0, 1, 0), 250);
        due("below, step", x.run(0, 0, 1, 1), 0);
        due("above", x.run(0, 0, 0, 0), 599 + 250 + 125);
        due("above, step", x.run(0, 0, 0, 1), NONE);
        readText(x, "kind 0 grow 10 drain 0; kind 1 grow 99 drain 500; after 2;");
        due("above lets go behind the last beat", x.run(0, 0, 0, 1), 2);
        due("above, 1000 at most", x.run(0, 0, 0, 0), 1000);
        readText(x, "kind 0 grow 10 drain 100; kind 1 grow 99 drain 500; after 1;");
        // all drain by PUSH as it is then: 599 - 59 + 250, then 790 - 79 + 125
        due("above drains too", x.run(0, 0, 0, 0), 836);
        readText(x, "kind 0 grow 10 drain 0; kind 1 grow 99 drain 0 pass 50; flow 10;");
        x.beat(0, 999);
        // 499 * 300 / 450 = 332; then the lower one has let go: 99 * 300 / 450 = 66
        due("flow from the beat behind on", x.run(0, 0, 0, 0), 332 + 66);
        x.column(0, 1, 10);
        due("a dry one takes no push", x.run(0, 0, 0, 0), 0);
        due("below a dry one HOLD is greater", x.about(0, 1, 5), 180 + 45);
        SoupSand y = new SoupSand();
        readText(y, "kind 0 grow 99 drain 0; kind 1 grow 99 drain 300;");
        y.layer(0, 0, 1, 100);
        y.layer(0, 1, 1, 100);
        y.shake(0);
        y.beat(0, 999);
        due("nothing comes to one that has let go", y.run(0, 0, 0, 0), 1000);
        due("half is cut behind the whole", y.run(0, 0, 1, 0), 700);
        SoupSand z = new SoupSand();
        // the lowest lets go in the last beat, and its push needs all steps to come up
        readText(z, "after 30;kind 0 grow 0 drain 0;kind 1 grow 99 drain 10;mark 1;");
        for (int k = 0; k < 5; k++) z.layer(0, 0, 1, 100);
        z.layer(0, 1, 1, 100);
        z.shake(0);
        beats(z, 0, 29, 0);
        z.beat(0, 999);
        due("all steps, below", z.run(0, 0, 5, 1), 29);
        int below = 1000;
        int above = 0;
        for (int i = 0; i < 31; i++) {
            int lost = below * 10 / 1000;
            below -= lost;
            above += lost / 2;
        }
        due("all steps, below, push", z.run(0, 0, 5, 0), below);
        due("all steps, above, push", z.run(0, 0, 4, 0), above);
        due("all steps, far above", z.run(0, 0, 0, 0), 0);
    }

    // Promise 10
    private static void choices() {
        SoupSand x = new SoupSand();
        x.layer(3, 0, 10, 20);
        x.layer(3, 0, 10, 60);
        x.loose(3, 0, 30, 1);
        x.loose(3, 1, 70, 1);
        x.loose(3, 1, 80, 1);
        due("choices", x.choices(3, 0, 0, 0), 6);
        due("choices kept", x.choices(3, 1, 0, 0), 6);
        due("choices first", x.choices(3, 2, 0, 0), 0);
        due("choices with 0 0", x.choices(3, 3, 0, 0), 3);
        due("choices with 1 2", x.choices(3, 3, 1, 2), 2);
        x.word(3, 2, 1, 65, 100);
        due("choices barred are still choices", x.choices(3, 0, 0, 0), 6);
        due("choices kept by a sounding", x.choices(3, 1, 0, 0), 4);
        due("choices first kept: the lowest layer's changes fastest", x.choices(3, 2, 0, 0), 1);
        due("choices kept with 1 0", x.choices(3, 3, 1, 0), 0);
        due("choices kept with 0 1", x.choices(3, 3, 0, 1), 2);
        x.word(3, 2, 0, 30, 30);
        due("choices kept by two", x.choices(3, 1, 0, 0), 2);
        due("choices first kept by two", x.choices(3, 2, 0, 0), 4);
        x.word(3, 2, 0, 0, 0);
        due("choices kept in a quarrel", x.choices(3, 1, 0, 0), 0);
        due("choices first kept in a quarrel", x.choices(3, 2, 0, 0), NONE);
        due("choices with one in a quarrel", x.choices(3, 3, 0, 0), 0);
        due("choices column 6", x.choices(6, 0, 0, 0), UNKNOWN);
        due("choices column -1 ahead of OUTSIDE", x.choices(-1, 4, 0, 0), UNKNOWN);
        due("choices layer 2", x.choices(3, 3, 2, 0), UNKNOWN);
        due("choices layer -1", x.choices(3, 3, -1, 0), UNKNOWN);
        due("choices value 2", x.choices(3, 3, 0, 2), UNKNOWN);
        due("choices value -1", x.choices(3, 3, 0, -1), UNKNOWN);
        due("choices: layer and value of 3 alone", x.choices(3, 0, 99, -7), 6);
        due("choices what 4", x.choices(3, 4, 99, 99), OUTSIDE);
        due("choices what -1", x.choices(3, -1, 0, 0), OUTSIDE);
        for (int k = 0; k < 6; k++) {
            x.layer(4, 0, 1, 0);
            x.loose(4, k, 1, 9);
            x.loose(4, k, 2, 9);
        }
        due("choices at most", x.choices(4, 0, 0, 0), 729);
        x.word(4, 2, 0, 2, 2);
        x.word(4, 2, 5, 1, 1);
        due("choices first kept of many", x.choices(4, 2, 0, 0), 2 * 243 + 1);
        due("choices kept of many", x.choices(4, 1, 0, 0), 81);
    }

    // Promise 11
    private static void odds() {
        SoupSand x = new SoupSand();
        x.layer(0, 0, 10, 50);
        x.loose(0, 0, 100, 5);
        x.shake(0);
        x.beat(0, 225);
        due("odds upper", x.odds(0, 0, 0, 0), 5);
        due("odds lower", x.odds(0, 0, 0, 1), 6);
        x.loose(0, 0, 99, 4);
        due("odds in least terms, upper", x.odds(0, 0, 0, 0), 1);
        due("odds in least terms, lower", x.odds(0, 0, 0, 1), 2);
        x.shake(0);
        due("odds of nothing, upper", x.odds(0, 1, 0, 0), 0);
        due("odds of nothing, lower", x.odds(0, 1, 0, 1), 1);
        x.word(0, 2, 0, 50, 99);
        due("odds of kept ones", x.odds(0, 0, 0, 0), 0);
        x.strike(0, true);
        x.word(0, 2, 0, 99, 100);
        due("odds of kept ones, upper", x.odds(0, 0, 0, 0), 5);
        due("odds of kept ones, lower", x.odds(0, 0, 0, 1), 9);
        x.strike(0, false);
        x.word(0, 2, 0, 0, 0);
        due("odds in a quarrel", x.odds(0, 0, 0, 0), QUARREL);
        due("odds what 2, ahead of QUARREL", x.odds(0, 0, 0, 2), OUTSIDE);
        due("odds what -1", x.odds(0, 0, 0, -1), OUTSIDE);
        due("odds column", x.odds(6, 0, 0, 0), UNKNOWN);
        due("odds shake ahead of OUTSIDE", x.odds(0, 2, 0, 2), UNKNOWN);
        due("odds layer", x.odds(0, 0, 1, 0), UNKNOWN);
    }

    // Promise 12
    private static void step() {
        SoupSand x = new SoupSand();
        x.layer(0, 0, 10, 50);
        x.loose(0, 0, 100, 5);
        x.shake(0);
        due("step of nothing", x.step(0, 0, 0, 0), NONE);
        due("step of nothing, greatest", x.step(0, 0, 0, 1), NONE);
        beats(x, 0, 2, 225);
        // 50: 500 -> 475 -> 975 -> 927 -> lets go in step 2; 100: in step 0
        due("step, one does without", x.step(0, 0, 0, 0), 0);
        due("step, one does without, greatest", x.step(0, 0, 0, 1), NONE);
        x.beat(0, 225);
        due("step least", x.step(0, 0, 0, 0), 0);
        due("step greatest", x.step(0, 0, 0, 1), 2);
        x.word(0, 2, 0, 0, 50);
        due("step least of kept ones", x.step(0, 0, 0, 0), 2);
        due("step greatest of kept ones", x.step(0, 0, 0, 1), 2);
        x.word(0, 2, 0, 0, 10);
        due("step in a quarrel", x.step(0, 0, 0, 0), QUARREL);
        due("step what 2", x.step(0, 0, 0, 2), OUTSIDE);
        due("step what -1", x.step(0, 0, 0, -1), OUTSIDE);
        due("step column", x.step(-1, 0, 0, 0), UNKNOWN);
        due("step shake", x.step(0, 1, 0, 3), UNKNOWN);
        due("step layer", x.step(0, 0, 1, 0), UNKNOWN);
    }

    // Promise 13
    private static void word() {
        SoupSand x = new SoupSand();
        due("word kind 3 ahead of all", x.word(6, 3, 0, 0, 0), OUTSIDE);
        due("word kind -1 ahead of all", x.word(-1, -1, 9, 0, 0), OUTSIDE);
        due("word column 6", x.word(6, 0, 0, 0, 0), UNKNOWN);
        due("word no shake", x.word(0, 0, 0, 0, 0), UNKNOWN);
        due("word no layer", x.word(0, 2, 0, 0, 0), UNKNOWN);
        x.shake(0);
        x.layer(0, 0, 10, 50);
        due("word shake 1", x.word(0, 1, 1, 0, 0), UNKNOWN);
        due("word shake -1", x.word(0, 1, -1, 0, 0), UNKNOWN);
        due("word layer 1 ahead of OUTSIDE", x.word(0, 2, 1, 5, 4), UNKNOWN);
        due("word layer -1", x.word(0, 2, -1, 0, 0), UNKNOWN);
        due("word l -1", x.word(0, 2, 0, -1, 5), OUTSIDE);
        due("word l 101", x.word(0, 2, 0, 101, 101), OUTSIDE);
        due("word u 101", x.word(0, 2, 0, 0, 101), OUTSIDE);
        due("word u below l", x.word(0, 2, 0, 5, 4), OUTSIDE);
        due("words refused", x.count(3), 0);
        due("word 0, l and u are of 2 alone", x.word(0, 0, 0, -5, MIN), 0);
        due("word 1", x.word(0, 1, 0, 900, MAX), 1);
        due("word 2", x.word(0, 2, 0, 50, 50), 2);
        due("word of another column", x.word(5, 0, 0, 0, 0), 3);
        for (int i = 4; i < 16; i++) due("word " + i, x.word(0, 2, 0, 0, 100), i);
        due("word 16", x.word(1, 0, 0, 0, 0), FULL);
        due("word 16, OUTSIDE ahead of FULL", x.word(0, 2, 0, 5, 4), OUTSIDE);
        due("word 16, UNKNOWN ahead of FULL", x.word(0, 2, 1, 0, 0), UNKNOWN);
    }

    private static void wordsFollowTheGround() {
        SoupSand x = new SoupSand();
        x.layer(0, 0, 10, 50);
        x.loose(0, 0, 100, 1);
        x.shake(0);
        x.beat(0, 225);
        x.word(0, 0, 0, 0, 0);
        due("quiet bars what lets go", x.choices(0, 1, 0, 0), 1);
        due("quiet keeps the first", x.choices(0, 2, 0, 0), 0);
        beats(x, 0, 2, 225);
        due("quiet, more beats", x.choices(0, 1, 0, 0), 0);
        x.column(0, 1, 1);
        due("quiet, water falls", x.choices(0, 1, 0, 0), 2);
        x.column(0, 1, 0);
        readText(x, "kind 0 grow 10;");
        // 50: 250 -> 238 -> 488 -> 464 -> 714; 100: 500 -> 475 -> 975 -> 927 -> lets go
        due("quiet, other rules", x.choices(0, 1, 0, 0), 1);
        x.work(0, 1, 100, 1);
        due("quiet, works are not looked at", x.choices(0, 1, 0, 0), 1);
        readText(x, "kind 9;");
        due("quiet, refused rules change nothing", x.choices(0, 1, 0, 0), 1);
        readText(x, "kind 1 pass 50;");
        due("quiet, kind 0 as at first again", x.choices(0, 1, 0, 0), 0);
        x.layer(0, 1, 60, 0);
        due("quiet, a layer below passes less", x.choices(0, 1, 0, 0), 1);
        x.loose(0, 1, 100, 1);
        due("quiet, a value more", x.choices(0, 0, 0, 0), 4);
        x.word(1, 1, 0, 0, 0);
        due("nothing boils in a column without layers", x.choices(1, 1, 0, 0), 0);
        x.word(2, 0, 0, 0, 0);
        due("a column without layers is quiet", x.choices(2, 1, 0, 0), 1);
    }

    // Promise 14
    private static void strike() {
        SoupSand x = new SoupSand();
        due("strike no word", x.strike(0, true), UNKNOWN);
        x.layer(0, 0, 10, 50);
        x.word(0, 2, 0, 0, 10);
        x.word(0, 2, 0, 0, 20);
        due("strike quarrel", x.choices(0, 1, 0, 0), 0);
        due("strike not struck yet", x.strike(0, false), 0);
        due("strike one", x.strike(0, true), 0);
        due("strike one, the other still bars", x.choices(0, 1, 0, 0), 0);
        due("strike the other", x.strike(1, true), 0);
        due("strike both", x.choices(0, 1, 0, 0), 1);
        due("strike again", x.strike(1, true), 1);
        due("strike back", x.strike(1, false), 1);
        due("strike back again", x.strike(1, false), 0);
        due("strike back bars", x.choices(0, 1, 0, 0), 0);
        due("strike 2", x.strike(2, true), UNKNOWN);
        due("strike -1", x.strike(-1, true), UNKNOWN);
        due("strike MAX", x.strike(MAX, true), UNKNOWN);
    }

    // Promise 15
    private static void bars() {
        SoupSand x = new SoupSand();
        x.layer(0, 0, 10, 50);
        x.loose(0, 0, 100, 1);
        x.loose(0, 0, 20, 1);
        x.layer(0, 0, 10, 0);
        x.loose(0, 1, 1, 1);
        x.shake(0);
        x.beat(0, 250);
        due("bars no word", x.bars(0), UNKNOWN);
        x.word(0, 2, 0, 20, 50);
        x.word(0, 2, 0, 100, 100);
        x.word(0, 0, 0, 0, 0);
        x.word(0, 1, 0, 0, 0);
        x.word(0, 2, 0, 51, 99);
        due("bars of a sounding, both ends are in", x.bars(0), 2);
        due("bars of another", x.bars(1), 4);
        // 250 * 90 / 100 = 225 reaches the upper layer, which lets go by 100
        due("bars of a quiet", x.bars(2), 2);
        due("bars of a boiled", x.bars(3), 4);
        due("bars all", x.bars(4), 6);
        x.strike(4, true);
        due("bars of one that is struck", x.bars(4), 6);
        due("bars 5", x.bars(5), UNKNOWN);
        due("bars -1", x.bars(-1), UNKNOWN);
    }

    // Promise 16
    private static void toStrike() {
        SoupSand x = new SoupSand();
        due("toStrike without words", x.toStrike(0), 0);
        x.layer(0, 0, 10, 5);
        x.loose(0, 0, 95, 1);
        x.word(0, 2, 0, 0, 10);
        due("toStrike without quarrel", x.toStrike(0), 0);
        x.word(0, 2, 0, 90, 100);
        due("toStrike: of like ones the least", x.toStrike(0), 1);
        x.word(0, 2, 0, 90, 99);
        due("toStrike: of two the one", x.toStrike(0), 1);
        x.word(0, 2, 0, 0, 9);
        due("toStrike: of two and two the least", x.toStrike(0), 6);
        x.strike(0, true);
        due("toStrike: struck ones do not count", x.toStrike(0), 8);
        x.strike(3, true);
        due("toStrike: no quarrel any more", x.toStrike(0), 0);
        x.word(0, 2, 0, 50, 50);
        due("toStrike: words that bar all", x.toStrike(0), 16);
        due("toStrike: of another column", x.toStrike(1), 0);
        due("toStrike 6", x.toStrike(6), UNKNOWN);
        due("toStrike -1", x.toStrike(-1), UNKNOWN);
    }

    // Promise 17
    private static void house() {
        SoupSand x = new SoupSand();
        due("house column 6 ahead of OUTSIDE", x.house(6, 0, 0), UNKNOWN);
        due("house column -1", x.house(-1, 1, 0), UNKNOWN);
        due("house width 0", x.house(0, 0, 0), OUTSIDE);
        due("house width 61", x.house(0, 61, 0), OUTSIDE);
        due("house worth -1", x.house(0, 1, -1), OUTSIDE);
        due("house worth 10000", x.house(0, 1, 10000), OUTSIDE);
        due("house 0", x.house(0, 1, 0), 0);
        due("house 1", x.house(5, 60, 9999), 1);
        for (int h = 2; h < 8; h++) due("house " + h, x.house(h % 6, 5, 5), h);
        due("house 8", x.house(0, 1, 0), FULL);
        due("house 8, OUTSIDE ahead of FULL", x.house(0, 61, 0), OUTSIDE);
        due("houses", x.count(5), 8);
    }

    /** A layer of 60, that lets go in step 1 by 100, not by 0: 999 * 100 * 20 / 2700 = 740 each beat. */
    private static SoupSand sinking() {
        SoupSand x = new SoupSand();
        x.layer(0, 0, 60, 100);
        x.loose(0, 0, 0, 2);
        x.shake(500);
        beats(x, 0, 2, 999);
        return x;
    }

    // Promise 18
    private static void sink() {
        SoupSand x = sinking();
        x.house(0, 24, 100);
        x.house(0, 25, 100);
        x.house(0, 30, 100);
        x.house(0, 60, 100);
        due("sink within 48", x.sink(0, 0, 2), 4);
        due("sink within 50", x.sink(1, 0, 2), 5);
        due("sink within 60", x.sink(2, 0, 2), 6);
        due("sink no more than the layer", x.sink(3, 0, 2), 6);
        due("sink least", x.sink(3, 0, 0), 0);
        due("sink greatest", x.sink(3, 0, 1), 6);
        x.word(0, 0, 0, 0, 0);
        due("sink greatest of kept ones", x.sink(3, 0, 1), 0);
        due("sink by the first, kept or not", x.sink(3, 0, 2), 6);
        x.strike(0, true);
        x.word(0, 1, 0, 0, 0);
        due("sink least of kept ones", x.sink(3, 0, 0), 6);
        x.strike(0, false);
        due("sink in a quarrel, least", x.sink(3, 0, 0), QUARREL);
        due("sink in a quarrel, greatest", x.sink(3, 0, 1), QUARREL);
        due("sink in a quarrel, first", x.sink(3, 0, 2), 6);
        due("sink what 3, ahead of QUARREL", x.sink(3, 0, 3), OUTSIDE);
        due("sink what -1", x.sink(3, 0, -1), OUTSIDE);
        due("sink house 4", x.sink(4, 0, 0), UNKNOWN);
        due("sink house -1", x.sink(-1, 0, 0), UNKNOWN);
        due("sink shake 1 ahead of OUTSIDE", x.sink(0, 1, 3), UNKNOWN);
        SoupSand y = new SoupSand();
        readText(y, "kind 0 grow 99 settle 50; kind 1 grow 99 settle 33;");
        y.layer(0, 0, 3, 100);
        y.layer(0, 2, 4, 0);
        y.layer(0, 1, 10, 100);
        y.shake(0);
        beats(y, 0, 3, 999);
        y.house(0, 5, 0);
        y.house(0, 1, 0);
        // 3 * 50 / 100 = 1; the one between has not let go; 3 of 10 lie within 10: 3 * 33 / 100 = 0
        due("sink is cut layer by layer", y.sink(0, 0, 2), 1);
        due("sink of a part of the topmost", y.sink(1, 0, 2), 1);
        y.house(0, 60, 0);
        due("sink of two layers", y.sink(2, 0, 2), 1 + 3);
    }

    // Promise 19
    private static void sunk() {
        SoupSand x = sinking();
        x.house(0, 24, 100);
        x.house(0, 25, 100);
        due("sunk below mark", x.sunk(0, 0, 0), 0);
        due("sunk below mark, lower", x.sunk(0, 0, 1), 1);
        due("sunk at mark", x.sunk(1, 0, 0), 1);
        due("sunk at mark, lower", x.sunk(1, 0, 1), 3);
        readText(x, "mark 4;");
        due("sunk by another mark", x.sunk(0, 0, 1), 3);
        readText(x, "mark 6;");
        due("sunk by a greater mark", x.sunk(1, 0, 0), 0);
        readText(x, "");
        x.word(0, 1, 0, 0, 0);
        due("sunk of kept ones", x.sunk(1, 0, 0), 1);
        due("sunk of kept ones, lower", x.sunk(1, 0, 1), 1);
        x.word(0, 0, 0, 0, 0);
        due("sunk in a quarrel", x.sunk(1, 0, 0), QUARREL);
        due("sunk what 2", x.sunk(1, 0, 2), OUTSIDE);
        due("sunk what -1", x.sunk(1, 0, -1), OUTSIDE);
        due("sunk house 2", x.sunk(2, 0, 2), UNKNOWN);
        due("sunk shake 1", x.sunk(1, 1, 0), UNKNOWN);
    }

    // Promise 20
    private static void led() {
        SoupSand x = sinking();
        x.house(0, 24, 100);
        x.house(0, 25, 100);
        due("led not sunk", x.led(0, 0, 0), NOT);
        due("led layer", x.led(1, 0, 0), 0);
        due("led step", x.led(1, 0, 1), 1);
        due("led what 2, ahead of NOT", x.led(0, 0, 2), OUTSIDE);
        due("led what -1", x.led(1, 0, -1), OUTSIDE);
        due("led house 2", x.led(2, 0, 0), UNKNOWN);
        due("led shake 1", x.led(1, 1, 2), UNKNOWN);
        x.word(0, 0, 0, 0, 0);
        due("led by the first, kept or not", x.led(1, 0, 0), 0);
        SoupSand y = new SoupSand();
        readText(y, "kind 0 grow 99 settle 50 pass 100; kind 1 grow 99 settle 20 pass 100; mark 6; flow 100;");
        y.layer(0, 0, 8, 0);
        y.layer(0, 0, 4, 100);
        y.layer(0, 1, 10, 100);
        y.layer(0, 1, 19, 100);
        y.house(0, 60, 0);
        y.shake(0);
        y.beat(0, 100);
        y.beat(0, 900);
        // parts 0, 2, 2, 3
        due("led sink", y.sink(0, 0, 2), 7);
        due("led to the greatest", y.led(0, 0, 0), 3);
        y.house(0, 18, 0);
        // depth 36: of the lowest 14, so parts 0, 2, 2, 2
        due("led of like ones to the topmost", y.led(1, 0, 0), 1);
        due("led of like ones, step", y.led(1, 0, 1), y.run(0, 0, 1, 1));
    }

    // Promise 21
    private static void lean() {
        SoupSand x = sinking();
        x.house(0, 24, 100);
        x.house(0, 60, 100);
        x.house(1, 60, 100);
        due("lean", x.lean(0, 1, 0), 2);
        due("lean the other way", x.lean(1, 0, 0), 2);
        due("lean of one", x.lean(1, 1, 0), 0);
        due("lean of two columns", x.lean(2, 1, 0), 6);
        x.word(0, 0, 0, 0, 0);
        x.word(0, 1, 0, 0, 0);
        due("lean in a quarrel", x.lean(0, 1, 0), 2);
        due("lean house 3", x.lean(3, 0, 0), UNKNOWN);
        due("lean house 3 behind", x.lean(0, 3, 0), UNKNOWN);
        due("lean house -1", x.lean(0, -1, 0), UNKNOWN);
        due("lean shake 1", x.lean(0, 1, 1), UNKNOWN);
        due("lean shake -1", x.lean(0, 1, -1), UNKNOWN);
    }

    // Promise 22
    private static void tank() {
        SoupSand x = new SoupSand();
        x.layer(4, 0, 5, 5);
        due("tank column 6", x.tank(6, 0, 1, 1), UNKNOWN);
        due("tank layer 1 ahead of OUTSIDE", x.tank(4, 1, 0, 0), UNKNOWN);
        due("tank layer -1", x.tank(4, -1, 1, 1), UNKNOWN);
        due("tank weight 0", x.tank(4, 0, 0, 1), OUTSIDE);
        due("tank weight 1000", x.tank(4, 0, 1000, 1), OUTSIDE);
        due("tank size 0", x.tank(4, 0, 1, 0), OUTSIDE);
        due("tank size 100", x.tank(4, 0, 1, 100), OUTSIDE);
        due("tank 0", x.tank(4, 0, 999, 99), 0);
        for (int t = 1; t < 8; t++) due("tank " + t, x.tank(4, 0, 1, 1), t);
        due("tank 8", x.tank(4, 0, 1, 1), FULL);
        due("tank 8, OUTSIDE ahead of FULL", x.tank(4, 0, 0, 1), OUTSIDE);
        due("tanks", x.count(6), 8);
    }

    // Promise 23
    private static void floats() {
        SoupSand x = sinking();
        x.layer(0, 1, 5, 0);
        x.tank(0, 0, 17, 1);
        x.tank(0, 0, 18, 1);
        x.tank(0, 1, 1, 99);
        // the layer below passes 899: 665 each beat
        x.beat(0, 999);
        due("floats by some", x.floats(0, 0), 1);
        due("floats: too heavy", x.floats(1, 0), 0);
        due("floats: its layer has not let go", x.floats(2, 0), 0);
        readText(x, "dry 19;");
        due("floats by another dry", x.floats(1, 0), 1);
        x.word(0, 1, 0, 0, 0);
        due("floats by all", x.floats(0, 0), 2);
        x.word(0, 0, 0, 0, 0);
        due("floats in a quarrel", x.floats(0, 0), QUARREL);
        due("floats in a quarrel, too heavy", x.floats(2, 0), QUARREL);
        x.strike(0, true);
        due("floats by none", x.floats(0, 0), 0);
        due("floats tank 3", x.floats(3, 0), UNKNOWN);
        due("floats tank -1", x.floats(-1, 0), UNKNOWN);
        due("floats shake 1", x.floats(0, 1), UNKNOWN);
    }

    // Promise 24
    private static void margin() {
        SoupSand x = new SoupSand();
        x.layer(0, 0, 21, 100);
        x.layer(0, 1, 10, 0);
        x.layer(1, 1, 40, 0);
        x.column(1, 0, 495);
        x.shake(0);
        // z = 500 - 10; HOLD 94 and 180; above: 10 * 9 in 0, 5 * 9 in 1
        due("margin height", x.margin(0, 0, 1, 0, 2), 490);
        due("margin upper", x.margin(0, 0, 1, 0, 0), 164);
        due("margin lower", x.margin(0, 0, 1, 0, 1), 45);
        due("margin height below", x.margin(0, 0, 1, 1, 2), 474);
        due("margin not driven", x.margin(0, 1, 0, 0, 0), NOT);
        due("margin not driven, height", x.margin(0, 1, 0, 0, 2), 475);
        x.column(1, 0, 490);
        due("margin: the upper end at z", x.margin(0, 0, 1, 0, 0), 82);
        due("margin: the upper end at z, lower", x.margin(0, 0, 1, 0, 1), 45);
        x.column(1, 0, 489);
        due("margin: the upper end below z", x.margin(0, 0, 1, 0, 0), NOT);
        x.column(1, 0, 500);
        due("margin: alike is not driven", x.margin(0, 0, 1, 0, 0), NOT);
        x.column(1, 0, 530);
        x.column(1, 1, 1);
        // dry: z = 510, above it 20 * 18; column 0 has no layer there
        due("margin: too high for the other", x.margin(0, 1, 0, 0, 0), NOT);
        x.column(1, 0, 515);
        // z = 495: HOLD 360 * 60 / 100 = 216, 94 * 60 / 100 = 56; above 20 * 18 less 5 * 9
        due("margin of a dry one, upper", x.margin(0, 1, 0, 0, 0), 272);
        due("margin of a dry one, lower", x.margin(0, 1, 0, 0, 1), 315);
        x.beat(0, 90);
        // 81 * 100 * 20 / 940 = 172 less 8: 94 * 836 / 1000 = 78, 78 * 60 / 100 = 46
        due("margin with push", x.run(0, 0, 0, 0), 164);
        due("margin with push, upper", x.margin(0, 1, 0, 0, 0), 262);
        beats(x, 0, 5, 999);
        due("margin: what has let go holds nothing", x.margin(0, 1, 0, 0, 0), 24);
        due("margin: what has let go holds nothing, lower", x.margin(0, 1, 0, 0, 1), 35);
        x.layer(3, 0, 40, 0);
        due("margin over a column without layers", x.margin(0, 1, 3, 0, 0), NOT);
        due("margin to a column without layers", x.margin(0, 1, 2, 0, 0), NOT);
        x.layer(2, 2, 40, 0);
        x.column(2, 0, 520);
        // 216 and 300 - 495 .. : column 2 has HOLD 180 -> 108, column 3 HOLD 180 -> 108; 360 less 45
        due("margin over three", x.margin(0, 1, 3, 0, 0), 48);
        due("margin over three, lower", x.margin(0, 1, 3, 0, 1), 35);
        due("margin a alike b", x.margin(0, 1, 1, 0, 2), OUTSIDE);
        due("margin what 3", x.margin(0, 0, 1, 0, 3), OUTSIDE);
        due("margin what -1", x.margin(0, 0, 1, 0, -1), OUTSIDE);
        due("margin shake 1", x.margin(1, 0, 1, 0, 0), UNKNOWN);
        due("margin column 6 ahead of OUTSIDE", x.margin(0, 6, 6, 0, 3), UNKNOWN);
        due("margin to column 6", x.margin(0, 0, 6, 0, 0), UNKNOWN);
        due("margin to column -1", x.margin(0, 0, -1, 0, 0), UNKNOWN);
        due("margin layer 2 of a", x.margin(0, 0, 1, 2, 2), UNKNOWN);
        due("margin layer -1 of a", x.margin(0, 0, 1, -1, 0), UNKNOWN);
        x.layer(5, 0, 60, 0);
        x.column(5, 0, 0);
        due("margin: a height below 0", x.margin(0, 5, 0, 0, 2), -30);
    }

    // Promise 25
    private static void least() {
        SoupSand x = new SoupSand();
        due("least shake 0 ahead of OUTSIDE", x.least(0, 9), UNKNOWN);
        x.shake(0);
        for (int what = 0; what <= 4; what++) due("least of nothing", x.least(0, what), NONE);
        x.layer(5, 0, 40, 0);
        x.layer(4, 0, 40, 0);
        x.column(4, 0, 490);
        // from 5 to 4 at 480: HOLD 180 -> 108 each; above 20 * 9 less 10 * 9
        long[] want = {5, 4, 0, 12, 5};
        for (int what = 0; what <= 4; what++) due("least(" + what + ")", x.least(0, what), want[what]);
        x.layer(3, 0, 40, 0);
        due("least: from 3 to 4 is alike and first", x.least(0, 0), 3);
        due("least: from 3 to 4, to", x.least(0, 1), 4);
        x.column(3, 0, 501);
        // z = 481, above 180 less 81
        due("least: driven more", x.least(0, 4), 11);
        due("least: driven more, upper", x.least(0, 3), 24);
        x.column(3, 0, 499);
        due("least: driven less", x.least(0, 0), 5);
        x.column(3, 0, 480);
        // from 5 over 4 to 3 at 480: 324 by 180, 9 / 5; from 4 to 3 at 470: 216 by 90
        due("least over three, to", x.least(0, 1), 3);
        due("least over three, upper", x.least(0, 3), 9);
        due("least over three, lower", x.least(0, 4), 5);
        due("least what 5", x.least(0, 5), OUTSIDE);
        due("least what -1", x.least(0, -1), OUTSIDE);
        due("least shake -1", x.least(-1, 0), UNKNOWN);
        due("least shake 1", x.least(1, 0), UNKNOWN);
        SoupSand y = new SoupSand();
        y.shake(0);
        y.layer(0, 0, 4, 0);
        y.layer(0, 0, 40, 0);
        y.layer(1, 0, 60, 0);
        y.column(1, 0, 490);
        due("least: the layer below", y.least(0, 2), 1);
    }

    // Promise 26
    private static void work() {
        SoupSand x = new SoupSand();
        due("work column 6 ahead of OUTSIDE", x.work(6, 2, 0, 0), UNKNOWN);
        due("work column -1", x.work(-1, 0, 1, 1), UNKNOWN);
        due("work kind 2", x.work(0, 2, 1, 1), OUTSIDE);
        due("work kind -1", x.work(0, -1, 1, 1), OUTSIDE);
        due("work drains 0", x.work(0, 0, 0, 1), OUTSIDE);
        due("work drains 501", x.work(0, 0, 501, 1), OUTSIDE);
        due("work piles 0", x.work(0, 1, 0, 1), OUTSIDE);
        due("work piles 101", x.work(0, 1, 101, 1), OUTSIDE);
        due("work price 0", x.work(0, 0, 1, 0), OUTSIDE);
        due("work price 1000", x.work(0, 0, 1, 1000), OUTSIDE);
        due("work 0", x.work(0, 0, 500, 999), 0);
        due("work 1", x.work(5, 1, 100, 1), 1);
        for (int w = 2; w < 6; w++) due("work " + w, x.work(0, 1, 1, 1), w);
        due("work 6", x.work(0, 1, 1, 1), FULL);
        due("work 6, OUTSIDE ahead of FULL", x.work(0, 1, 101, 1), OUTSIDE);
        due("works", x.count(7), 6);
    }

    // Promise 27
    private static void stands() {
        SoupSand x = sinking();
        due("stands without houses", x.stands(0), 1);
        x.house(0, 24, 100);
        due("stands with a house that does not sink", x.stands(0), 1);
        x.house(0, 25, 100);
        due("stands no more", x.stands(0), 0);
        due("stands bit 0", x.stands(1), UNKNOWN);
        due("stands -1", x.stands(-1), UNKNOWN);
        due("stands MIN", x.stands(MIN), UNKNOWN);
        // 740 with 300 more: 740 - 259, then 1221; with 500 more: 740 - 407 = 333, then 1073;
        // with 1000 at most nothing stays
        x.work(0, 0, 500, 5);
        x.work(0, 0, 500, 5);
        x.work(0, 1, 30, 5);
        x.work(1, 1, 100, 5);
        due("stands: one drain", x.stands(1), 0);
        due("stands: two drains", x.stands(3), 1);
        // 70: 999 * 70 * 20 / 2700 = 518 each: 518 - 25 + 518 lets go; with 550: 518 - 284 + 518
        due("stands: piles alone", x.stands(4), 0);
        due("stands: piles and a drain", x.stands(5), 1);
        due("stands: piles of another column", x.stands(8), 0);
        due("stands: bit 4", x.stands(16), UNKNOWN);
        x.word(1, 1, 0, 0, 0);
        due("stands: a quarrel where no house is", x.stands(3), 1);
        x.word(0, 0, 0, 0, 0);
        due("stands by kept choices", x.stands(0), 1);
        x.strike(1, true);
        due("stands by all again", x.stands(0), 0);
        x.house(1, 1, 1);
        due("stands: a quarrel where a house is", x.stands(3), QUARREL);
        due("stands: UNKNOWN ahead of QUARREL", x.stands(16), UNKNOWN);
        SoupSand y = new SoupSand();
        y.layer(0, 0, 10, 5);
        y.house(0, 1, 1);
        y.word(0, 2, 0, 6, 7);
        due("stands: a quarrel without shakes", y.stands(0), QUARREL);
        SoupSand z = sinking();
        z.house(0, 25, 100);
        z.work(0, 1, 100, 5);
        z.word(0, 1, 0, 0, 0);
        due("stands: words are by runs without works", z.stands(1), 1);
        z.shake(0);
        beats(z, 1, 2, 999);
        due("stands: in any shake", z.stands(0), 0);
    }

    private static void standsAtTheEdges() {
        SoupSand x = new SoupSand();
        // 999 * 90 * 5 / 450 = 999 each beat: lets go, if even 1 stays
        readText(x, "kind 0 grow 5 drain 499 settle 99;");
        x.layer(0, 0, 10, 90);
        x.shake(0);
        beats(x, 0, 2, 999);
        x.house(0, 5, 1);
        x.work(0, 0, 500, 1);
        x.work(0, 0, 1, 1);
        x.work(0, 0, 500, 1);
        due("stands: drain 499", x.stands(0), 0);
        due("stands: drain 999", x.stands(1), 0);
        due("stands: drain 1000", x.stands(3), 1);
        due("stands: drain beyond 1000", x.stands(7), 1);
        SoupSand y = new SoupSand();
        // below 998 at most each beat, of which half comes up: no more than 1000 drain, so 500 at most
        readText(y, "kind 0 grow 0 drain 0 settle 99;kind 1 grow 99 drain 0 settle 0;");
        y.layer(0, 0, 10, 0);
        y.layer(0, 1, 10, 100);
        y.shake(0);
        y.beat(0, 999);
        y.house(0, 5, 1);
        for (int w = 0; w < 6; w++) y.work(0, 0, 500, 1);
        due("stands: drain is 1000 at most", y.stands(63), 1);
        SoupSand z = new SoupSand();
        // below 999 * 99 * 13 / 1350 = 952 of which 951 drain: 475 come up each beat
        readText(z, "kind 0 grow 99 drain 0 settle 99;kind 1 grow 13 drain 999 settle 0;");
        z.layer(0, 0, 10, 0);
        z.layer(0, 1, 10, 100);
        z.shake(0);
        beats(z, 0, 2, 999);
        z.house(0, 5, 1);
        z.work(0, 1, 1, 1);
        due("stands: twice 475", z.stands(1), 1);
        z.beat(0, 999);
        due("stands: thrice 475, LOOSE is 0 at least", z.stands(1), 0);
        SoupSand v = new SoupSand();
        // nothing stands in the last column, with whatever set of six works there
        readText(v, "kind 0 settle 99;");
        v.layer(5, 0, 10, 100);
        v.house(5, 5, 1);
        v.shake(0);
        beats(v, 0, 2, 999);
        for (int w = 0; w < 6; w++) v.work(5, w % 2, 1, 1);
        due("plan: no set of 64", v.plan(0), NONE);
        due("stands: all of six", v.stands(63), 0);
        due("stands: a seventh", v.stands(64), UNKNOWN);
    }

    // Promise 28
    private static void plan() {
        SoupSand x = sinking();
        x.house(0, 25, 100);
        due("plan: none", x.plan(0), NONE);
        due("plan: none, price", x.plan(1), NONE);
        x.work(0, 0, 500, 9);
        x.work(0, 0, 500, 3);
        due("plan: both", x.plan(0), 3);
        due("plan: both, price", x.plan(1), 12);
        x.work(0, 1, 99, 12);
        due("plan: of like ones the least set", x.plan(0), 3);
        x.work(0, 1, 98, 11);
        due("plan: the least price", x.plan(0), 8);
        due("plan: the least price, price", x.plan(1), 11);
        x.word(0, 0, 0, 0, 0);
        due("plan: nothing to do", x.plan(0), 0);
        due("plan: nothing to do, price", x.plan(1), 0);
        x.word(0, 1, 0, 0, 0);
        due("plan in a quarrel", x.plan(0), QUARREL);
        due("plan what 2, ahead of QUARREL", x.plan(2), OUTSIDE);
        due("plan what -1", x.plan(-1), OUTSIDE);
        SoupSand y = new SoupSand();
        for (int c = 0; c < 2; c++) {
            y.layer(c, 0, 60, 100);
            y.house(c, 60, 1);
        }
        y.shake(0);
        beats(y, 0, 2, 999);
        y.work(0, 1, 100, 7);
        y.work(1, 1, 100, 8);
        y.work(1, 1, 99, 6);
        due("plan over two columns", y.plan(0), 5);
        due("plan over two columns, price", y.plan(1), 13);
    }

    // Promise 29
    private static void loss() {
        SoupSand x = sinking();
        due("loss without houses", x.loss(), 0);
        x.house(0, 25, 1);
        // 500 * 1 * 1 / 3
        due("loss, cut", x.loss(), 166);
        x.house(0, 30, 1);
        due("loss, each cut", x.loss(), 332);
        x.house(0, 24, 9999);
        due("loss: one that is not sunk", x.loss(), 332);
        x.shake(1000);
        beats(x, 1, 2, 999);
        due("loss of two shakes", x.loss(), 332 + 333 + 333);
        x.work(0, 1, 100, 1);
        due("loss: works are not done", x.loss(), 998);
        x.word(0, 1, 0, 0, 0);
        due("loss by kept ones", x.loss(), 3000);
        x.word(2, 1, 0, 0, 0);
        due("loss: a quarrel where no house is", x.loss(), 3000);
        x.house(2, 1, 0);
        due("loss in a quarrel", x.loss(), QUARREL);
        SoupSand y = new SoupSand();
        for (int c = 0; c < 6; c++) {
            for (int k = 0; k < 6; k++) {
                y.layer(c, 0, 60, 100);
                y.loose(c, k, 99, 9);
                y.loose(c, k, 98, 9);
            }
        }
        for (int h = 0; h < 8; h++) y.house(h % 6, 60, 9999);
        for (int q = 0; q < 6; q++) {
            y.shake(1000);
            beats(y, q, 30, 999);
        }
        due("loss at most", y.loss(), 48L * 9999 * 1000);
    }

    // Promise 30
    private static void feed() {
        SoupSand x = new SoupSand();
        due("feed 0", x.feed(0, 0), OUTSIDE);
        due("feed 9", x.feed(9, 0), OUTSIDE);
        due("feed -1", x.feed(-1, 0), OUTSIDE);
        due("feed refused", x.count(8), 0);
        due("feed 3 of a long", x.feed(3, 0x4141414141647279L), 3);
        due("feed 3 more", x.feed(3, -1L << 24 | 0x35203b), 6);
        due("feed: read", x.read(), 1);
        due("feed: the highest of these first", x.rule(20), 5);
        for (int i = 1; i <= 24; i++) due("feed " + 8 * i, x.feed(8, 0x2020202020202020L), 8 * i);
        due("feed 197", x.feed(5, 0x2020202020L), 197);
        due("feed 201", x.feed(4, 0x20202020L), FULL);
        due("feed 201, OUTSIDE ahead of FULL", x.feed(9, 0), OUTSIDE);
        due("feed 200", x.feed(3, 0x202020L), 200);
        due("feed one more", x.feed(1, 0x20L), FULL);
        due("feed: all blanks", x.read(), 0);
        due("feed: anew", x.feed(8, -1), 8);
        due("feed: bytes of 255", x.read(), -11);
        due("feed: bytes of 255, where", x.fault(), 0);
    }

    // Promise 31
    private static void read() {
        SoupSand x = new SoupSand();
        due("read of nothing", x.read(), 0);
        due("read", readText(x, "kind 3 grow 1 drain 2 pass 3 settle 4 hold 5;dry 6;wet 7;flow 8;mark 9;after 10;"), 6);
        for (int i = 0; i < 5; i++) due("read of kind 3", x.rule(15 + i), i + 1);
        for (int i = 0; i < 5; i++) due("read of all", x.rule(20 + i), i + 6);
        due("read: not told", x.rule(10), 20);
        due("read: the text is empty", x.count(8), 0);
        due("read without blanks", readText(x, "kind0hold99grow0;dry1;"), 2);
        due("read without blanks, hold", x.rule(4), 99);
        due("read without blanks, grow", x.rule(0), 0);
        due("read: what is not told is as at first", x.rule(15), 20);
        due("read: what is not told is as at first, of all", x.rule(21), 9);
        due("read with blanks", readText(x, "   kind   1   pass   007   ;   flow 0 ;  "), 2);
        due("read with blanks, pass", x.rule(7), 7);
        due("read: the last of like ones", readText(x, "dry 5;dry 6;kind 2 grow 3 pass 1;kind 2 grow 4;"), 4);
        due("read: the last of like ones, dry", x.rule(20), 6);
        due("read: the last of like ones, grow", x.rule(10), 4);
        due("read: the last of like ones, pass", x.rule(12), 1);
        due("read refused", readText(x, "dry 7;dry"), -11);
        due("read refused, as it was", x.rule(20), 6);
        due("read refused, the text is empty", x.count(8), 0);
        due("read, greatest", readText(x, "kind 0 grow 99 drain 999 pass 100 settle 99 hold 99;dry 99;wet 99;flow 100;mark 99;after 30;"), 6);
        due("read, least", readText(x, "kind 3 grow 0 drain 0 pass 0 settle 0 hold 0;dry 1;wet 1;flow 0;mark 1;after 0;"), 6);
        due("read twelve", readText(x, "dry 1;dry 1;dry 1;dry 1;dry 1;dry 1;dry 1;dry 1;dry 1;dry 1;dry 1;wet 3;"), 12);
        due("read twelve, the last", x.rule(21), 3);
    }

    private static void flaw(String text, int number, int place) {
        SoupSand x = new SoupSand();
        due("read of '" + text + "'", readText(x, text), -10 - number);
        due("fault of '" + text + "'", x.fault(), place);
    }

    private static void readFaults() {
        flaw(";", 1, 0);
        flaw(" Dry 5;", 1, 1);
        flaw("5 dry;", 1, 0);
        flaw("dry;", 1, 3);
        flaw("dry", 1, 3);
        flaw("dry  ", 1, 5);
        flaw("dry 5", 1, 5);
        flaw("dry 5  ", 1, 7);
        flaw("dry 5;;", 1, 6);
        flaw("dry 5 6;", 1, 6);
        flaw("dry 5 6789;", 1, 6);
        flaw("dry 5 wet 6;", 1, 6);
        flaw("dry wet 5;", 1, 4);
        flaw("drywet 5;", 1, 0);
        flaw("dryz 5;", 1, 0);
        flaw("drya 5;", 1, 0);
        flaw("dry{5;", 1, 3);
        flaw("dry`5;", 1, 3);
        flaw("dry 5:", 1, 5);
        flaw("dry 5/", 1, 5);
        flaw("dry 9;wet 0 9;", 2, 10);
        flaw("d ry 5;", 1, 0);
        flaw("dr", 1, 0);
        flaw("dry 5;wett 6;", 1, 6);
        flaw("dry-5;", 1, 3);
        flaw("dry\t5;", 1, 3);
        flaw("grow 5;", 1, 0);
        flaw("kind 0;", 1, 6);
        flaw("kind 0 dry 5;", 1, 7);
        flaw("kind 0 kind 5;", 1, 7);
        flaw("kind 0 grow 5 wet 5;", 1, 14);
        flaw("kind 0 grow 5 6;", 1, 14);
        flaw("kind 0 1 grow 5;", 1, 7);
        flaw("kind grow 5;", 1, 5);
        flaw("kind 0 grow;", 1, 11);
        flaw("kind 0 grow 1 drain 2 pass 3 settle 4 hold 5", 1, 44);
        flaw("kind 0 grow 1 drain 2 pass 3 settle 4 hold 5 x 6;", 1, 45);
        flaw("dry" + " ".repeat(197), 1, 200);
        flaw("dry 5" + " ".repeat(195), 1, 200);
        flaw(" ".repeat(195) + "dry 5", 1, 200);
        flaw(" ".repeat(197) + "wet", 1, 200);
        flaw(" ".repeat(199) + "w", 1, 199);
        flaw("kind 0 grow 5" + " ".repeat(187), 1, 200);
        flaw("z".repeat(200), 1, 0);
        flaw("dry " + "1".repeat(196), 2, 4);
        flaw("dry 1000;", 2, 4);
        flaw("dry 0005;", 2, 4);
        flaw("dry 99999999999999999999;", 2, 4);
        flaw("dry 4294967297", 2, 4);
        flaw("kind 4 grow 5;", 2, 5);
        flaw("kind 0000 grow 5;", 2, 5);
        flaw("kind 0 grow 100;", 2, 12);
        flaw("kind 0 drain 1000;", 2, 13);
        flaw("kind 0 pass 101;", 2, 12);
        flaw("kind 0 settle 100;", 2, 14);
        flaw("kind 0 hold 100;", 2, 12);
        flaw("dry 0;", 2, 4);
        flaw("dry 100;", 2, 4);
        flaw("wet 0;", 2, 4);
        flaw("wet 100;", 2, 4);
        flaw("flow 101;", 2, 5);
        flaw("mark 0;", 2, 5);
        flaw("mark 100;", 2, 5);
        flaw("after 31;", 2, 6);
        flaw("kind 0 grow 5 grow 6;", 3, 14);
        flaw("kind 0 grow 5 drain 5 grow 600;", 3, 22);
        flaw("kind 0 grow 1 drain 2 pass 3 settle 4 hold 5 hold 6;", 3, 45);
        flaw("kind 0 hold 5 hold", 3, 14);
        String twelve = "dry 1;dry 1;dry 1;dry 1;dry 1;dry 1;dry 1;dry 1;dry 1;dry 1;dry 1;wet 3;";
        flaw(twelve + "dry 1;", 4, 72);
        flaw(twelve + "  kind", 4, 74);
        flaw(twelve + "dry 1000;", 4, 72);
        flaw(twelve + "grow 1;", 1, 72);
        flaw(twelve + "drz 1;", 1, 72);
        flaw(twelve + "5;", 1, 72);
    }

    // Promise 32
    private static void fault() {
        SoupSand x = new SoupSand();
        due("fault ahead of all", x.fault(), NONE);
        feedText(x, "dry 5; x");
        due("fault ahead of read", x.fault(), NONE);
        x.read();
        due("fault", x.fault(), 7);
        due("fault once more", x.fault(), 7);
        feedText(x, "dry 5;");
        due("fault is of the latest read", x.fault(), 7);
        x.read();
        due("fault of none", x.fault(), NONE);
    }

    // Promise 33
    private static void rule() {
        SoupSand x = new SoupSand();
        due("rule -1", x.rule(-1), OUTSIDE);
        due("rule 25", x.rule(25), OUTSIDE);
        due("rule MAX", x.rule(MAX), OUTSIDE);
        due("rule MIN", x.rule(MIN), OUTSIDE);
        readText(x, "kind 1 grow 11 drain 12 pass 13 settle 14 hold 15;kind 2 hold 31;after 29;mark 28;flow 27;wet 26;dry 25;");
        for (int i = 0; i < 5; i++) due("rule " + (5 + i), x.rule(5 + i), 11 + i);
        due("rule 14", x.rule(14), 31);
        for (int i = 0; i < 5; i++) due("rule " + (20 + i), x.rule(20 + i), 25 + i);
    }
}
