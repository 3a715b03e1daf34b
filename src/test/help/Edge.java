import java.io.IOException;
import java.nio.file.Files;
import java.nio.file.Path;
import java.util.ArrayList;
import java.util.IdentityHashMap;
import java.util.List;
import java.util.Map;

/**
 * What the tests of the document's edges share. Each of their methods first says the document's words that
 * it tests; then come the calls with the answers that are due by these words.
 */
final class Edge {
    static final int NONE = -1, UNKNOWN = -1001, OUTSIDE = -1002, NOT = -1003, FULL = -1004, QUARREL = -1005;
    static final int MIN = Integer.MIN_VALUE, MAX = Integer.MAX_VALUE;

    /** The document lets an object be used for so many calls. */
    private static final int CALLS = 512;
    private static final int PARTS = 8;

    interface Maker {
        SoupSand make();
    }

    interface Call {
        long on(SoupSand x);
    }

    /** A call in which one number is open. */
    interface CallWith {
        long on(SoupSand x, int v);
    }

    private static final Map<Maker, List<List<Long>>> UNHARMED = new IdentityHashMap<>();
    private static final String DOCUMENT = document();
    private static String sentence = "";
    private static int sentences = 0;
    private static int asked = 0;
    private static int wrong = 0;

    private Edge() {
    }

    // ---- saying and asking

    private static String document() {
        Path place = Path.of("../shared/DOC.md");
        try {
            return Files.exists(place) ? plain(Files.readString(place)) : "";
        } catch (IOException e) {
            return "";
        }
    }

    private static String plain(String text) {
        return text.replaceAll("\\s+", " ");
    }

    /** The words that are tested from here on; they stand in the document, letter by letter. */
    static void says(String where, String words) {
        sentence = where + ", '" + words + "'";
        sentences++;
        if (!DOCUMENT.isEmpty() && !DOCUMENT.contains(plain(words))) tellWrong("the document does not say this");
    }

    static void due(String call, long got, long want) {
        asked++;
        if (got != want) tellWrong(call + " answered " + got + ", due is " + want);
    }

    private static void tellWrong(String what) {
        wrong++;
        System.out.println(sentence + ": " + what);
    }

    /** A call is refused, and what the object shows of itself is what one shows that was not called so. */
    static void refuses(Maker maker, String call, long want, Call refused) {
        due(call, refused.on(maker.make()), want);
        List<List<Long>> before = UNHARMED.computeIfAbsent(maker, Edge::showAll);
        for (int part = 0; part < PARTS; part++) {
            SoupSand x = maker.make();
            refused.on(x);
            if (!show(x, part).equals(before.get(part))) tellWrong(call + " changed what part " + part + " shows");
        }
    }

    /** One number of a call is beyond its bounds, next to them and far away. */
    static void refusesBeyond(Maker maker, int low, int high, String call, long want, CallWith refused) {
        for (int v : new int[] {low - 1, high + 1, MIN, MAX}) {
            refuses(maker, call + " of " + v, want, x -> refused.on(x, v));
        }
    }

    static void end() {
        System.out.println(wrong == 0
            ? sentences + " sentences, " + asked + " answers: all are as due"
            : wrong + " things are not as due");
        if (wrong != 0) System.exit(1);
    }

    // ---- what an object shows of itself: in parts, each on an object of its own, for each part ends it

    private static List<List<Long>> showAll(Maker maker) {
        List<List<Long>> all = new ArrayList<>();
        for (int part = 0; part < PARTS; part++) all.add(show(maker.make(), part));
        return all;
    }

    private static List<Long> show(SoupSand x, int part) {
        List<Long> seen = new ArrayList<>();
        switch (part) {
            case 0: showCounts(x, seen); break;
            case 1: showLayers(x, seen); break;
            case 2: showRuns(x, seen); break;
            case 3: showWords(x, seen); break;
            case 4: showHouses(x, seen); break;
            case 5: showSlips(x, seen); break;
            case 6: showWorks(x, seen); break;
            default: showText(x, seen);
        }
        if (seen.size() > CALLS / 2) tellWrong("part " + part + " asks too much of an object");
        return seen;
    }

    private static int layersOf(SoupSand x, int c) {
        int k = 0;
        while (k < 6 && x.about(c, k, 0) != UNKNOWN) k++;
        return k;
    }

    private static void showCounts(SoupSand x, List<Long> seen) {
        for (int what = 0; what <= 8; what++) seen.add((long) x.count(what));
        for (int what = 0; what <= 24; what++) seen.add((long) x.rule(what));
        seen.add((long) x.fault());
        for (int c = 0; c < 6; c++) {
            seen.add((long) x.column(c, 0, 1));
            seen.add((long) x.column(c, 1, 1));
        }
    }

    private static void showLayers(SoupSand x, List<Long> seen) {
        for (int c = 0; c < 6; c++) {
            for (int what = 0; what <= 2; what++) seen.add((long) x.choices(c, what, 0, 0));
            int layers = layersOf(x, c);
            for (int k = 0; k < layers; k++) {
                for (int what = 0; what <= 5; what++) seen.add((long) x.about(c, k, what));
            }
        }
    }

    private static void showRuns(SoupSand x, List<Long> seen) {
        int last = Math.max(0, x.count(1) - 1);
        for (int c = 0; c < 6; c++) {
            int layers = layersOf(x, c);
            for (int k = 0; k < layers; k++) {
                seen.add((long) x.run(c, 0, k, 0));
                seen.add((long) x.run(c, last, k, 1));
                seen.add(x.odds(c, 0, k, 0));
                seen.add(x.odds(c, 0, k, 1));
                seen.add(x.odds(c, last, k, 0));
                seen.add((long) x.choices(c, 3, k, 1));
            }
        }
    }

    private static void showWords(SoupSand x, List<Long> seen) {
        for (int c = 0; c < 6; c++) seen.add((long) x.toStrike(c));
        for (int i = 0; i < 16; i++) seen.add((long) x.bars(i));
        for (int i = 0; i < 16; i++) seen.add((long) x.strike(i, true));
    }

    private static void showHouses(SoupSand x, List<Long> seen) {
        int last = Math.max(0, x.count(1) - 1);
        for (int h = 0; h < 8; h++) {
            for (int what = 0; what <= 2; what++) seen.add((long) x.sink(h, 0, what));
            for (int what = 0; what <= 1; what++) seen.add(x.sunk(h, 0, what));
            for (int what = 0; what <= 1; what++) seen.add((long) x.led(h, last, what));
            seen.add((long) x.lean(h, 0, last));
        }
        for (int t = 0; t < 8; t++) {
            seen.add((long) x.floats(t, 0));
            seen.add((long) x.floats(t, last));
        }
    }

    private static void showSlips(SoupSand x, List<Long> seen) {
        int last = Math.max(0, x.count(1) - 1);
        for (int what = 0; what <= 4; what++) {
            seen.add(x.least(0, what));
            seen.add(x.least(last, what));
        }
        for (int a = 0; a < 6; a++) {
            for (int b = 0; b < 6; b++) {
                for (int k = 0; k < 3; k++) seen.add(x.margin(0, a, b, k, 0));
            }
        }
    }

    private static void showWorks(SoupSand x, List<Long> seen) {
        for (int set = 0; set < 64; set++) seen.add((long) x.stands(set));
        seen.add((long) x.plan(0));
        seen.add((long) x.plan(1));
        seen.add(x.loss());
    }

    private static void showText(SoupSand x, List<Long> seen) {
        seen.add((long) x.read());
        seen.add((long) x.fault());
        seen.add((long) x.count(8));
        for (int what = 0; what <= 24; what++) seen.add((long) x.rule(what));
    }

    // ---- makers

    /** Nothing is told yet. */
    static final Maker BARE = SoupSand::new;

    /** Something of everything, and nothing full but the values of one LAYER. */
    static final Maker VILLAGE = Edge::village;

    /** As VILLAGE, but in COLUMN 0, on which a HOUSE and a TANK are, no CHOICE is KEPT. */
    static final Maker QUARRELSOME = Edge::quarrelsome;

    private static SoupSand quarrelsome() {
        SoupSand x = village();
        x.word(0, 2, 2, 91, 100);
        return x;
    }

    private static SoupSand village() {
        SoupSand x = new SoupSand();
        readText(x, "kind 0 grow 60 settle 50;kind 1 grow 40 drain 100 pass 80 settle 40;mark 2;after 2;");
        x.column(0, 0, 510);
        x.column(0, 1, 4);
        x.layer(0, 0, 4, 10);
        x.layer(0, 1, 10, 60);
        x.layer(0, 0, 8, 90);
        x.loose(0, 1, 20, 3);
        x.loose(0, 2, 30, 2);
        x.loose(0, 2, 50, 5);
        x.layer(1, 0, 12, 70);
        x.layer(1, 1, 20, 50);
        x.loose(1, 0, 5, 4);
        x.layer(5, 2, 30, 0);
        x.layer(5, 3, 30, 10);
        x.layer(4, 3, 50, 5);
        x.column(5, 0, 508);
        shakeOf(x, 200, 300, 500);
        shakeOf(x, 30, 800);
        x.word(0, 1, 0, 0, 0);
        x.word(0, 2, 2, 30, 90);
        x.word(1, 0, 1, 0, 0);
        x.strike(2, true);
        x.house(0, 8, 900);
        x.house(1, 20, 50);
        x.tank(0, 1, 50, 9);
        x.tank(1, 0, 17, 1);
        x.work(0, 1, 90, 20);
        x.work(1, 1, 69, 7);
        feedText(x, "dry 20;wet 5;");
        return x;
    }

    // ---- calls that many tests make

    static void feedText(SoupSand x, String text) {
        for (int from = 0; from < text.length(); from += 8) {
            int to = Math.min(text.length(), from + 8);
            long bytes = 0;
            for (int i = from; i < to; i++) bytes = bytes << 8 | text.charAt(i);
            x.feed(to - from, bytes);
        }
    }

    static int readText(SoupSand x, String text) {
        feedText(x, text);
        return x.read();
    }

    static int shakeOf(SoupSand x, int share, int... beats) {
        int q = x.shake(share);
        for (int strength : beats) x.beat(q, strength);
        return q;
    }

    static void beats(SoupSand x, int q, int many, int strength) {
        for (int i = 0; i < many; i++) x.beat(q, strength);
    }

    /**
     * So many LAYERS of KIND 0 in COLUMN 0 that PUSH of each grows by just the strength that comes to it, by
     * grow 10 and wet 9: THICK is 2 and LOOSE is HOLD.
     */
    static void meters(SoupSand x, int many) {
        for (int k = 0; k < many; k++) x.layer(0, 0, 2, 9 + 18 * k);
    }

    /** An object with RULES of a text, ahead of all else. */
    static SoupSand ruled(String text) {
        SoupSand x = new SoupSand();
        if (readText(x, text) < 0) tellWrong("the test's own RULES are refused: " + text);
        return x;
    }
}
