import java.lang.reflect.InvocationTargetException;
import java.lang.reflect.Method;
import java.util.ArrayList;
import java.util.Arrays;
import java.util.Comparator;
import java.util.List;

/** The edges that the document names ahead of its parts: what holds of all calls alike. */
public final class EdgeTermsTest {
    private static final int NONE = Edge.NONE, UNKNOWN = Edge.UNKNOWN, OUTSIDE = Edge.OUTSIDE, NOT = Edge.NOT, FULL = Edge.FULL, QUARREL = Edge.QUARREL;
    private static final int MIN = Edge.MIN, MAX = Edge.MAX;

    private static final Edge.Maker BARE = Edge.BARE;
    private static final Edge.Maker VILLAGE = Edge.VILLAGE;
    private static final Edge.Maker QUARRELSOME = Edge.QUARRELSOME;

    private static void says(String where, String words) {
        Edge.says(where, words);
    }

    private static void due(String call, long got, long want) {
        Edge.due(call, got, want);
    }

    public static void main(String[] args) {
        constants();
        noneIsMinusOne();
        cutsTowardsZero();
        numbersFromZeroOn();
        sets();
        unknownAheadOfOutside();
        outsideAheadOfNot();
        notAheadOfFull();
        outsideAheadOfFull();
        outsideAheadOfQuarrel();
        refusedChangesNothing();
        anyNumbers();
        askingChangesNothing();
        fiveHundredAndTwelveCalls();
        Edge.end();
    }

    private static void constants() {
        says("The public face", "NONE = -1, UNKNOWN = -1001, OUTSIDE = -1002, NOT = -1003, FULL = -1004, QUARREL = -1005;");
        due("NONE", SoupSand.NONE, -1);
        due("UNKNOWN", SoupSand.UNKNOWN, -1001);
        due("OUTSIDE", SoupSand.OUTSIDE, -1002);
        due("NOT", SoupSand.NOT, -1003);
        due("FULL", SoupSand.FULL, -1004);
        due("QUARREL", SoupSand.QUARREL, -1005);
    }

    private static void noneIsMinusOne() {
        says("Terms", "NONE is -1.");
        SoupSand x = new SoupSand();
        x.layer(0, 0, 1, 0);
        x.shake(0);
        due("fault of none", x.fault(), -1);
        due("the STEP of none", x.run(0, 0, 0, 1), -1);
        due("the least STEP of none", x.step(0, 0, 0, 0), -1);
        due("THE LEAST MARGIN of none", x.least(0, 0), -1);
        x.word(0, 1, 0, 0, 0);
        due("the first KEPT of none", x.choices(0, 2, 0, 0), -1);
    }

    private static void cutsTowardsZero() {
        says("Terms", "All numbers are whole; / cuts towards 0;");
        SoupSand x = new SoupSand();
        x.layer(0, 0, 3, 0);
        x.column(0, 0, 0);
        x.shake(0);
        due("half of a HOLD of 27", x.about(0, 0, 5), 13);
        due("the middle of THICK 3, below 0", x.margin(0, 0, 1, 0, 2), -1);
    }

    private static void numbersFromZeroOn() {
        says("Terms", "What has a number has it from 0 on, as it comes.");
        SoupSand x = new SoupSand();
        for (int i = 0; i < 3; i++) {
            due("LAYER of COLUMN 0", x.layer(0, 0, 1, 0), i);
            due("LAYER of COLUMN 5", x.layer(5, 0, 1, 0), i);
            due("SHAKE", x.shake(0), i);
            due("WORD", x.word(i, 0, 0, 0, 0), i);
            due("HOUSE", x.house(i, 1, 0), i);
            due("TANK", x.tank(0, 0, 1, 1), i);
            due("WORK", x.work(i, 0, 1, 1), i);
            due("refused LAYERS take no number", x.layer(0, 4, 1, 0), OUTSIDE);
            due("refused SHAKES take no number", x.shake(-1), OUTSIDE);
            due("refused WORDS take no number", x.word(0, 3, 0, 0, 0), OUTSIDE);
            due("refused HOUSES take no number", x.house(0, 0, 0), OUTSIDE);
            due("refused TANKS take no number", x.tank(0, 0, 0, 1), OUTSIDE);
            due("refused WORKS take no number", x.work(0, 0, 0, 1), OUTSIDE);
        }
    }

    private static void sets() {
        says("Terms", "A SET is a whole number, bit k for k.");
        for (int k = 0; k < 16; k++) {
            SoupSand x = new SoupSand();
            x.layer(0, 0, 1, 50);
            for (int i = 0; i < 16; i++) x.word(0, 2, 0, 0, i == k ? 49 : 50);
            due("WORD " + k + " is to strike", x.toStrike(0), 1 << k);
        }
        for (int k = 0; k < 6; k++) {
            SoupSand x = Edge.ruled("kind 0 grow 99 settle 99;mark 1;");
            x.layer(0, 0, 2, 100);
            x.house(0, 1, 1);
            Edge.shakeOf(x, 0, 999);
            for (int w = 0; w < 6; w++) x.work(w == k ? 0 : 1, 1, 100, 1);
            due("WORK " + k + " is THE PLAN", x.plan(0), 1 << k);
            due("all but this do not", x.stands(63 - (1 << k)), 0);
        }
    }

    // ---- the order of refusals, by calls for which several hold

    private static void unknownAheadOfOutside() {
        says("Terms", "REFUSALS, of several the first in this order: UNKNOWN");
        Edge.refuses(VILLAGE, "column", UNKNOWN, x -> x.column(6, 2, -1));
        Edge.refuses(VILLAGE, "layer", UNKNOWN, x -> x.layer(6, 4, 0, -1));
        Edge.refuses(VILLAGE, "loose", UNKNOWN, x -> x.loose(0, 3, -1, 0));
        Edge.refuses(VILLAGE, "about", UNKNOWN, x -> x.about(0, 3, 6));
        Edge.refuses(VILLAGE, "beat", UNKNOWN, x -> x.beat(2, -1));
        Edge.refuses(VILLAGE, "run", UNKNOWN, x -> x.run(0, 2, 0, 2));
        Edge.refuses(VILLAGE, "choices", UNKNOWN, x -> x.choices(6, 4, 0, 0));
        Edge.refuses(VILLAGE, "odds", UNKNOWN, x -> x.odds(0, 0, 3, 2));
        Edge.refuses(VILLAGE, "step", UNKNOWN, x -> x.step(6, 0, 0, 2));
        Edge.refuses(VILLAGE, "word", UNKNOWN, x -> x.word(0, 2, 3, 101, -1));
        Edge.refuses(VILLAGE, "house", UNKNOWN, x -> x.house(6, 0, -1));
        Edge.refuses(VILLAGE, "sink", UNKNOWN, x -> x.sink(2, 0, 3));
        Edge.refuses(VILLAGE, "sunk", UNKNOWN, x -> x.sunk(0, 2, 2));
        Edge.refuses(VILLAGE, "led", UNKNOWN, x -> x.led(2, 0, 2));
        Edge.refuses(VILLAGE, "tank", UNKNOWN, x -> x.tank(0, 3, 0, 0));
        Edge.refuses(VILLAGE, "margin", UNKNOWN, x -> x.margin(2, 0, 0, 0, 3));
        Edge.refuses(VILLAGE, "least", UNKNOWN, x -> x.least(2, 5));
        Edge.refuses(VILLAGE, "work", UNKNOWN, x -> x.work(6, 2, 0, 0));
        Edge.refuses(QUARRELSOME, "odds in a quarrel", UNKNOWN, x -> x.odds(0, 2, 0, 0));
        Edge.refuses(QUARRELSOME, "floats in a quarrel", UNKNOWN, x -> x.floats(0, 2));
        Edge.refuses(QUARRELSOME, "stands in a quarrel", UNKNOWN, x -> x.stands(4));
    }

    private static void outsideAheadOfNot() {
        says("Terms", "OUTSIDE (another number out of its bounds), NOT (not now, as told)");
        Edge.refuses(VILLAGE, "loose", OUTSIDE, x -> x.loose(0, 0, 10, 10));
        Edge.Maker dry = () -> {
            SoupSand x = VILLAGE.make();
            x.column(0, 1, 400);
            return x;
        };
        Edge.refuses(dry, "led", OUTSIDE, x -> x.led(0, 0, 2));
        Edge.refuses(dry, "led, what 0", NOT, x -> x.led(0, 0, 0));
        Edge.refuses(VILLAGE, "margin", OUTSIDE, x -> x.margin(0, 0, 5, 0, 3));
        Edge.refuses(VILLAGE, "margin, what 0", NOT, x -> x.margin(0, 0, 5, 0, 0));
    }

    private static void notAheadOfFull() {
        says("Terms", "NOT (not now, as told), FULL");
        for (int value : new int[] {90, 30, 50}) {
            Edge.refuses(VILLAGE, "loose " + value + " once more", NOT, x -> x.loose(0, 2, value, 1));
        }
        Edge.refuses(VILLAGE, "loose 91", FULL, x -> x.loose(0, 2, 91, 1));
    }

    private static void outsideAheadOfFull() {
        says("Terms", "(not now, as told), FULL, QUARREL");
        Edge.Maker full = EdgeTermsTest::fullOfAll;
        Edge.refuses(full, "layer", OUTSIDE, x -> x.layer(0, 4, 1, 0));
        Edge.refuses(full, "loose", OUTSIDE, x -> x.loose(0, 0, 101, 1));
        Edge.refuses(full, "shake", OUTSIDE, x -> x.shake(1001));
        Edge.refuses(full, "beat", OUTSIDE, x -> x.beat(5, 1000));
        Edge.refuses(full, "word", OUTSIDE, x -> x.word(0, 2, 0, 1, 0));
        Edge.refuses(full, "house", OUTSIDE, x -> x.house(0, 61, 0));
        Edge.refuses(full, "tank", OUTSIDE, x -> x.tank(0, 0, 1000, 1));
        Edge.refuses(full, "work", OUTSIDE, x -> x.work(0, 0, 501, 1));
        Edge.refuses(full, "feed", OUTSIDE, x -> x.feed(9, 0));
        Edge.refuses(full, "a LAYER more", FULL, x -> x.layer(0, 3, 60, 100));
        Edge.refuses(full, "a value more", FULL, x -> x.loose(0, 0, 100, 9));
        Edge.refuses(full, "a SHAKE more", FULL, x -> x.shake(1000));
        Edge.refuses(full, "a BEAT more", FULL, x -> x.beat(5, 999));
        Edge.refuses(full, "a WORD more", FULL, x -> x.word(0, 2, 0, 0, 100));
        Edge.refuses(full, "a HOUSE more", FULL, x -> x.house(0, 60, 9999));
        Edge.refuses(full, "a TANK more", FULL, x -> x.tank(0, 0, 999, 99));
        Edge.refuses(full, "a WORK more", FULL, x -> x.work(0, 0, 500, 999));
        Edge.refuses(full, "bytes more", FULL, x -> x.feed(8, -1));
    }

    /** Nothing more finds room, but for LAYERS of other COLUMNS. */
    private static SoupSand fullOfAll() {
        SoupSand x = new SoupSand();
        for (int k = 0; k < 6; k++) x.layer(0, k % 4, 5, 40);
        x.loose(0, 0, 0, 9);
        x.loose(0, 0, 60, 2);
        for (int q = 0; q < 6; q++) x.shake(100 * q);
        Edge.beats(x, 0, 3, 500);
        Edge.beats(x, 5, 30, 100);
        for (int i = 0; i < 16; i++) x.word(0, 2, 0, 0, 40 + i);
        for (int h = 0; h < 8; h++) x.house(0, 5 + h, 10);
        for (int t = 0; t < 8; t++) x.tank(0, t % 6, 9, 1);
        for (int w = 0; w < 6; w++) x.work(0, w % 2, 5, 5);
        Edge.feedText(x, "dry 7;" + " ".repeat(194));
        return x;
    }

    private static void outsideAheadOfQuarrel() {
        says("Terms", "FULL, QUARREL (no CHOICE is KEPT)");
        Edge.refuses(QUARRELSOME, "odds", OUTSIDE, x -> x.odds(0, 0, 0, 2));
        Edge.refuses(QUARRELSOME, "step", OUTSIDE, x -> x.step(0, 0, 0, 2));
        Edge.refuses(QUARRELSOME, "sink", OUTSIDE, x -> x.sink(0, 0, 3));
        Edge.refuses(QUARRELSOME, "sunk", OUTSIDE, x -> x.sunk(0, 0, 2));
        Edge.refuses(QUARRELSOME, "plan", OUTSIDE, x -> x.plan(2));
    }

    // ---- any numbers in any call

    private static List<Method> calls() {
        List<Method> all = new ArrayList<>();
        for (Method m : SoupSand.class.getDeclaredMethods()) {
            if (java.lang.reflect.Modifier.isPublic(m.getModifiers())) all.add(m);
        }
        all.sort(Comparator.comparing(Method::getName));
        return all;
    }

    private static long call(Method m, SoupSand x, Object[] numbers) {
        try {
            return ((Number) m.invoke(x, numbers)).longValue();
        } catch (InvocationTargetException e) {
            throw new IllegalStateException(m.getName() + Arrays.toString(numbers) + " throws", e.getCause());
        } catch (IllegalAccessException e) {
            throw new IllegalStateException(e);
        }
    }

    /** The numbers that place i of a row of the given values holds, row by row. */
    private static Object[] numbers(Method m, int row, int[] values) {
        Class<?>[] types = m.getParameterTypes();
        Object[] numbers = new Object[types.length];
        int rest = row;
        for (int i = 0; i < types.length; i++) {
            int v = values[rest % values.length];
            rest /= values.length;
            if (types[i] == boolean.class) numbers[i] = v > 0;
            else if (types[i] == long.class) numbers[i] = (long) v;
            else numbers[i] = v;
        }
        return numbers;
    }

    private static int rows(Method m, int[] values) {
        int rows = 1;
        for (int i = 0; i < m.getParameterCount(); i++) rows *= values.length;
        return rows;
    }

    private static boolean isRefusal(long answer) {
        return answer <= UNKNOWN && answer >= QUARREL;
    }

    private static void refusedChangesNothing() {
        says("Terms", "What is refused changes nothing.");
        int[] values = {-1, 0, 1, 99999};
        Edge.Maker[] makers = {BARE, VILLAGE, QUARRELSOME, EdgeTermsTest::fullOfAll};
        for (Edge.Maker maker : makers) {
            for (Method m : calls()) {
                for (int row = 0; row < rows(m, values); row++) {
                    Object[] numbers = numbers(m, row, values);
                    long answer = call(m, maker.make(), numbers);
                    // of these many rows a part is enough, and each number comes again in others
                    if (!isRefusal(answer) || row % 3 != 0) continue;
                    Edge.refuses(maker, m.getName() + Arrays.toString(numbers), answer, x -> call(m, x, numbers));
                }
            }
        }
    }

    private static void anyNumbers() {
        says("Terms", "(another number out of its bounds)");
        int[] values = {MIN, -1, 0, 3, 32, MAX};
        Edge.Maker[] makers = {BARE, VILLAGE, QUARRELSOME};
        for (Edge.Maker maker : makers) {
            for (Method m : calls()) {
                SoupSand x = maker.make();
                for (int row = 0; row < rows(m, values); row++) {
                    if (row % 300 == 299) x = maker.make();
                    Object[] numbers = numbers(m, row, values);
                    long answer = call(m, x, numbers);
                    // a height may be as low as 0 less 360; a FAULT is 4 at most
                    boolean may = answer >= -360 || isRefusal(answer);
                    due(m.getName() + Arrays.toString(numbers) + " answers what it may", may ? 1 : 0, 1);
                }
            }
        }
    }

    private static void askingChangesNothing() {
        says("Not promised", "Nothing is promised beyond the answers and state changes described above");
        // neither does a call that only asks and is answered
        SoupSand x = VILLAGE.make();
        SoupSand y = VILLAGE.make();
        for (int c = 0; c < 6; c++) {
            y.toStrike(c);
            y.choices(c, 1, 0, 0);
        }
        for (int set = 0; set < 4; set++) y.stands(set);
        y.plan(0);
        y.loss();
        y.least(1, 0);
        y.sink(1, 1, 1);
        y.floats(0, 1);
        y.bars(2);
        due("a RUN", y.run(0, 0, 1, 0), x.run(0, 0, 1, 0));
        due("ODDS", y.odds(0, 0, 1, 0), x.odds(0, 0, 1, 0));
        due("THE PLAN", y.plan(0), x.plan(0));
        due("LOSS", y.loss(), x.loss());
        due("THE LEAST MARGIN", y.least(0, 3), x.least(0, 3));
        due("THE TEXT", y.read(), x.read());
    }

    private static void fiveHundredAndTwelveCalls() {
        says("What it is", "An object is used for at most 512 calls after it has been made");
        SoupSand x = new SoupSand();
        for (int i = 0; i < 511; i++) due("call " + i, x.column(i % 6, 0, i), i < 6 ? 500 : i - 6);
        due("the last call", x.column(511 % 6, 0, 0), 505);
        due("NONE of a new one", new SoupSand().fault(), NONE);
    }
}
