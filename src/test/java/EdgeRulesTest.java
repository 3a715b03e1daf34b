/** The edges that the document names in its part 2 (RULES) and in promises 30 to 33. */
public final class EdgeRulesTest {
    private static final int NONE = Edge.NONE, OUTSIDE = Edge.OUTSIDE, FULL = Edge.FULL;
    private static final int STANDS_NOT = 1, NUMBER = 2, AGAIN = 3, THIRTEENTH = 4;

    private static final Edge.Maker BARE = Edge.BARE;
    private static final Edge.Maker VILLAGE = Edge.VILLAGE;

    private static final String[] NAMES = {"grow", "drain", "pass", "settle", "hold"};
    private static final int[] NAMES_MOST = {99, 999, 100, 99, 99};
    private static final String[] OTHERS = {"dry", "wet", "flow", "mark", "after"};
    private static final int[] OTHERS_LEAST = {1, 1, 0, 1, 0};
    private static final int[] OTHERS_MOST = {99, 99, 100, 99, 30};
    private static final int[] FIRST = {20, 50, 90, 10, 60, 20, 50, 90, 10, 60, 20, 50, 90, 10, 60, 20, 50, 90, 10, 60, 18, 9, 40, 5, 0};
    private static final String TWELVE = "dry 1;dry 2;dry 3;dry 4;dry 5;dry 6;dry 7;dry 8;dry 9;wet 1;wet 2;wet 3;";

    private static void says(String where, String words) {
        Edge.says(where, words);
    }

    private static void due(String call, long got, long want) {
        Edge.due(call, got, want);
    }

    public static void main(String[] args) {
        twoHundredBytes();
        clauses();
        clauseCutShort();
        clauseOfKind();
        names();
        kinds();
        boundsOfNames();
        boundsOfOthers();
        whatIsNotTold();
        theLastRules();
        threeFigures();
        letters();
        eachLetterCounts();
        blanks();
        blanksWithin();
        sideBySide();
        firstByte();
        theEnd();
        theLeastOfThese();
        cannotStand();
        wordThatCannot();
        numberFault();
        againFault();
        thirteenthFault();
        feedAnswers();
        feedHighestFirst();
        feedBounds();
        feedFull();
        readAnswers();
        readEmpties();
        readFaults();
        readAsTheyWere();
        faultAnswers();
        faultOfTheLatest();
        ruleAnswers();
        ruleBounds();
        Edge.end();
    }

    /** A text on a new object, and its clauses. */
    private static void good(String text, int clauses) {
        SoupSand x = new SoupSand();
        due("read of '" + text + "'", Edge.readText(x, text), clauses);
        due("fault of '" + text + "'", x.fault(), NONE);
    }

    /** A text on a new object, its FAULT and the FAULT's byte. */
    private static void bad(String text, int fault, int at) {
        SoupSand x = new SoupSand();
        due("read of '" + text + "'", Edge.readText(x, text), -10 - fault);
        due("fault of '" + text + "'", x.fault(), at);
    }

    // ---- part 2

    private static void twoHundredBytes() {
        says("Part 2", "RULES are a text (200 bytes at most)");
        SoupSand x = new SoupSand();
        Edge.feedText(x, " ".repeat(194) + "dry 7;");
        due("200 bytes", x.count(8), 200);
        due("one more", x.feed(1, ' '), FULL);
        due("all 200 are read", x.read(), 1);
        due("to the last", x.rule(20), 7);
        due("then there is room again", x.feed(8, 0), 8);
    }

    private static void clauses() {
        says("Part 2", "clause = 'kind' K name N {name N} ';' 'dry' N ';' 'wet' N ';' 'flow' N ';' 'mark' N ';' 'after' N ';'.");
        good("", 0);
        for (int i = 0; i < 5; i++) good(OTHERS[i] + " 7;", 1);
        for (int i = 0; i < 5; i++) good("kind 0 " + NAMES[i] + " 7;", 1);
        good("after 1;mark 1;flow 1;wet 1;dry 1;kind 3 hold 1;", 6);
        bad("kinds 0 grow 1;", STANDS_NOT, 0);
        bad("kin 0 grow 1;", STANDS_NOT, 0);
        bad("dr 1;", STANDS_NOT, 0);
        bad("dryy 1;", STANDS_NOT, 0);
    }

    private static void clauseCutShort() {
        says("Part 2", "'kind' K name N {name N} ';'");
        String whole = "kind 2 grow 11 hold 22;";
        good(whole, 1);
        // where a text ends within its last word that is a word of its own, at its first letter
        int[] at = {-1, 0, 0, 0, 4, 5, 6, 7, 7, 7, 7, 11, 12, 13, 14, 15, 15, 15, 15, 19, 20, 21, 22};
        for (int length = 1; length < whole.length(); length++) bad(whole.substring(0, length), STANDS_NOT, at[length]);
        for (String word : OTHERS) {
            bad(word, STANDS_NOT, word.length());
            bad(word + ";", STANDS_NOT, word.length());
            bad(word + " 7", STANDS_NOT, word.length() + 2);
            bad(word + " 7 8;", STANDS_NOT, word.length() + 3);
        }
    }

    private static void clauseOfKind() {
        says("Part 2", "name N {name N} ';'");
        bad("kind 0;", STANDS_NOT, 6);
        good("kind 0 grow 1;", 1);
        good("kind 0 grow 1 drain 2 pass 3 settle 4 hold 5;", 1);
        good("kind 0 hold 5 settle 4 pass 3 drain 2 grow 1;", 1);
        bad("kind 0 grow 1 drain 2 pass 3 settle 4 hold 5 grow 6;", AGAIN, 45);
        bad("kind 0 grow;", STANDS_NOT, 11);
        bad("kind 0 grow 1 2;", STANDS_NOT, 14);
        bad("kind 0 1 grow 2;", STANDS_NOT, 7);
        bad("kind grow 2;", STANDS_NOT, 5);
    }

    private static void names() {
        says("Part 2", "name = 'grow' | 'drain' | 'pass' | 'settle' | 'hold'.");
        for (int i = 0; i < 5; i++) {
            SoupSand x = Edge.ruled("kind 2 " + NAMES[i] + " 7;");
            for (int what = 0; what < 25; what++) due(NAMES[i] + ", rule(" + what + ")", x.rule(what), what == 10 + i ? 7 : FIRST[what]);
        }
        for (String other : OTHERS) bad("kind 2 " + other + " 7;", STANDS_NOT, 7);
        bad("kind 2 kind 3;", STANDS_NOT, 7);
        for (String name : NAMES) bad(name + " 7;", STANDS_NOT, 0);
    }

    private static void kinds() {
        says("Part 2", "K 0 .. 3.");
        for (int kind = 0; kind < 4; kind++) due("KIND " + kind, Edge.ruled("kind " + kind + " grow 7;").rule(5 * kind), 7);
        bad("kind 4 grow 7;", NUMBER, 5);
        bad("kind 999 grow 7;", NUMBER, 5);
        bad("kind -1 grow 7;", STANDS_NOT, 5);
        good("kind 003 grow 7;", 1);
    }

    private static void boundsOfNames() {
        says("Part 2", "of each KIND grow 20 (0 .. 99), drain 50 (0 .. 999), pass 90 (0 .. 100), settle 10 (0 .. 99), hold 60 (0 .. 99)");
        for (int kind = 0; kind < 4; kind++) {
            for (int i = 0; i < 5; i++) {
                String head = "kind " + kind + " " + NAMES[i] + " ";
                due(head + "least", Edge.ruled(head + "0;").rule(5 * kind + i), 0);
                due(head + "most", Edge.ruled(head + NAMES_MOST[i] + ";").rule(5 * kind + i), NAMES_MOST[i]);
                bad(head + (NAMES_MOST[i] + 1) + ";", NUMBER, head.length());
                if (NAMES_MOST[i] < 999) bad(head + "999;", NUMBER, head.length());
            }
        }
    }

    private static void boundsOfOthers() {
        says("Part 2", "dry 18, wet 9 (1 .. 99), flow 40 (0 .. 100), mark 5 (1 .. 99), after 0 (0 .. 30).");
        for (int i = 0; i < 5; i++) {
            String head = OTHERS[i] + " ";
            due(head + "least", Edge.ruled(head + OTHERS_LEAST[i] + ";").rule(20 + i), OTHERS_LEAST[i]);
            due(head + "most", Edge.ruled(head + OTHERS_MOST[i] + ";").rule(20 + i), OTHERS_MOST[i]);
            bad(head + (OTHERS_MOST[i] + 1) + ";", NUMBER, head.length());
            bad(head + "999;", NUMBER, head.length());
            if (OTHERS_LEAST[i] == 1) bad(head + "0;", NUMBER, head.length());
        }
    }

    private static void whatIsNotTold() {
        says("Part 2", "At first, and what a text does not tell");
        SoupSand x = Edge.ruled("kind 0 grow 1 drain 1 pass 1 settle 1 hold 1;kind 3 hold 1;dry 1;wet 1;flow 1;mark 1;after 1;");
        due("all told", x.rule(24), 1);
        due("an empty text", x.read(), 0);
        for (int what = 0; what < 25; what++) due("rule(" + what + ")", x.rule(what), FIRST[what]);
        Edge.readText(x, "kind 0 grow 1;wet 2;");
        Edge.readText(x, "kind 0 hold 3;dry 4;");
        due("told by the text ahead alone, grow", x.rule(0), 20);
        due("told by the text ahead alone, wet", x.rule(21), 9);
        due("told, hold", x.rule(4), 3);
        due("told, dry", x.rule(20), 4);
    }

    private static void theLastRules() {
        says("Part 2", "Of like ones the last rules.");
        due("dry twice", Edge.ruled("dry 5;dry 6;").rule(20), 6);
        due("dry twelve times", Edge.ruled("dry 5;".repeat(11) + "dry 7;").rule(20), 7);
        SoupSand x = Edge.ruled("kind 1 grow 5 hold 6;kind 1 grow 7;kind 2 grow 8;");
        due("grow of KIND 1", x.rule(5), 7);
        due("hold of KIND 1, told by the first", x.rule(9), 6);
        due("grow of KIND 2", x.rule(10), 8);
    }

    private static void threeFigures() {
        says("Part 2", "NUMBERS have one to three figures");
        due("one", Edge.ruled("dry 7;").rule(20), 7);
        due("two", Edge.ruled("dry 07;").rule(20), 7);
        due("three", Edge.ruled("dry 007;").rule(20), 7);
        bad("dry 0007;", NUMBER, 4);
        bad("kind 0000 grow 7;", NUMBER, 5);
        bad("kind 0 grow 0000;", NUMBER, 12);
        bad("dry 4294967303;", NUMBER, 4);
        bad("dry 18446744073709551623;", NUMBER, 4);
        bad("dry " + "0".repeat(196), NUMBER, 4);
        bad("dry /;", STANDS_NOT, 4);
        bad("dry :;", STANDS_NOT, 4);
        bad("dry 1/;", STANDS_NOT, 5);
        bad("dry 1:;", STANDS_NOT, 5);
        due("figures 0 and 9", Edge.ruled("kind 0 drain 909;").rule(1), 909);
    }

    private static void letters() {
        says("Part 2", "words are letters a .. z side by side");
        bad("`dry 7;", STANDS_NOT, 0);
        bad("{dry 7;", STANDS_NOT, 0);
        bad("dry`7;", STANDS_NOT, 3);
        bad("dry{7;", STANDS_NOT, 3);
        bad("drya7;", STANDS_NOT, 0);
        bad("dryz7;", STANDS_NOT, 0);
        bad("Dry 7;", STANDS_NOT, 0);
        bad("dRy 7;", STANDS_NOT, 0);
        bad("DRY 7;", STANDS_NOT, 0);
        bad("dry@7;", STANDS_NOT, 3);
        bad("d" + (char) ('r' + 128) + "y 7;", STANDS_NOT, 0);
    }

    private static void eachLetterCounts() {
        says("Part 2", "(a word that cannot: at its first letter)");
        for (String word : OTHERS) eachLetterOf("", word, " 7;");
        eachLetterOf("", "kind", " 0 grow 7;");
        for (String name : NAMES) eachLetterOf("kind 0 ", name, " 7;");
    }

    /** A word with another letter, one letter less, one letter more: in each place. */
    private static void eachLetterOf(String ahead, String word, String behind) {
        good(ahead + word + behind, 1);
        for (int i = 0; i < word.length(); i++) {
            String front = word.substring(0, i);
            String back = word.substring(i + 1);
            bad(ahead + front + "x" + back + behind, STANDS_NOT, ahead.length());
            bad(ahead + front + back + behind, STANDS_NOT, ahead.length());
            bad(ahead + front + "x" + word.charAt(i) + back + behind, STANDS_NOT, ahead.length());
        }
        bad(ahead + word + "x" + behind, STANDS_NOT, ahead.length());
    }

    private static void blanks() {
        says("Part 2", "blanks (32) may stand anywhere but within words and NUMBERS");
        good("kind0grow1hold2;dry3;", 2);
        good("  kind  0  grow  1  hold  2  ;  dry  3  ;  ", 2);
        good(" ", 0);
        good(" ".repeat(200), 0);
        good(" ".repeat(195) + "dry7;", 1);
        good("dry7;" + " ".repeat(195), 1);
        good("dry" + " ".repeat(195) + "7;", 1);
        good("dry7" + " ".repeat(195) + ";", 1);
        int[] others = {0, 9, 10, 13, 31, 33, 128, 160, 255};
        for (int sign : others) {
            bad((char) sign + "dry 7;", STANDS_NOT, 0);
            bad("dry" + (char) sign + "7;", STANDS_NOT, 3);
            bad("dry 7;" + (char) sign, STANDS_NOT, 6);
        }
    }

    private static void blanksWithin() {
        says("Part 2", "but within words and NUMBERS");
        bad("d ry 7;", STANDS_NOT, 0);
        bad("dr y 7;", STANDS_NOT, 0);
        bad("ki nd 0 grow 7;", STANDS_NOT, 0);
        bad("kind 0 gr ow 7;", STANDS_NOT, 7);
        bad("dry 1 2;", STANDS_NOT, 6);
        bad("kind 0 grow 1 2;", STANDS_NOT, 14);
    }

    private static void sideBySide() {
        says("Part 2", "two words or two NUMBERS side by side need one");
        bad("drywet 7;", STANDS_NOT, 0);
        bad("dry wet 7;", STANDS_NOT, 4);
        bad("dry 7 8;", STANDS_NOT, 6);
        due("figures side by side are one NUMBER", Edge.ruled("dry 78;").rule(20), 78);
        good("dry7;wet8;", 2);
        good("kind0grow1drain2pass3settle4hold5;", 1);
    }

    private static void firstByte() {
        says("Part 2", "FAULTS, at the first byte that has one");
        bad("dry 100;wett 7;", NUMBER, 4);
        bad("wett 7;dry 100;", STANDS_NOT, 0);
        bad("kind 0 grow 100 grow 7;", NUMBER, 12);
        bad("kind 0 grow 7 grow 100;", AGAIN, 14);
        bad("kind 4 dry 7;", NUMBER, 5);
        bad("kind 0 grow 7 grow 7 dry 7;", AGAIN, 14);
        bad("dry 100 7;", NUMBER, 4);
        bad("dry 1000", NUMBER, 4);
        bad("dry 7 1000;", STANDS_NOT, 6);
        bad(TWELVE + "dry 100;", THIRTEENTH, 72);
        bad("dry 100;" + TWELVE, NUMBER, 4);
    }

    private static void theEnd() {
        says("Part 2", "(the end at the text's length)");
        bad("dry", STANDS_NOT, 3);
        bad("dry ", STANDS_NOT, 4);
        bad("dry 7", STANDS_NOT, 5);
        bad("dry 7  ", STANDS_NOT, 7);
        bad("dry 7;wet", STANDS_NOT, 9);
        bad("kind", STANDS_NOT, 4);
        bad("kind 0", STANDS_NOT, 6);
        bad("kind 0 grow", STANDS_NOT, 11);
        bad("kind 0 grow 7", STANDS_NOT, 13);
        bad(" ".repeat(197) + "dry", STANDS_NOT, 200);
        bad(" ".repeat(195) + "dry 7", STANDS_NOT, 200);
        bad("dry" + " ".repeat(197), STANDS_NOT, 200);
        bad("kind 0 grow 7" + " ".repeat(187), STANDS_NOT, 200);
        bad(" ".repeat(199) + "d", STANDS_NOT, 199);
        bad(" ".repeat(199) + ";", STANDS_NOT, 199);
    }

    private static void theLeastOfThese() {
        says("Part 2", "of these the least: 1 it cannot stand there");
        bad("1000;", STANDS_NOT, 0);
        bad("dry 7 1000;", STANDS_NOT, 6);
        bad("kind 0 1000;", STANDS_NOT, 7);
        bad(TWELVE + "grow 7;", STANDS_NOT, 72);
        bad(TWELVE + "dryy 7;", STANDS_NOT, 72);
        bad(TWELVE + ";", STANDS_NOT, 72);
        bad(TWELVE + "1000", STANDS_NOT, 72);
    }

    private static void cannotStand() {
        says("Part 2", "1 it cannot stand there");
        bad(";", STANDS_NOT, 0);
        bad("7", STANDS_NOT, 0);
        bad("dry;", STANDS_NOT, 3);
        bad("dry 7;;", STANDS_NOT, 6);
        bad("dry -7;", STANDS_NOT, 4);
        bad("dry +7;", STANDS_NOT, 4);
        bad("dry 7.5;", STANDS_NOT, 5);
        bad("dry 7,wet 8;", STANDS_NOT, 5);
        bad("dry=7;", STANDS_NOT, 3);
        bad("kind 0 grow 7,hold 8;", STANDS_NOT, 13);
    }

    private static void wordThatCannot() {
        says("Part 2", "(a word that cannot: at its first letter)");
        bad("  soup 7;", STANDS_NOT, 2);
        bad("soup", STANDS_NOT, 0);
        bad("dry soup;", STANDS_NOT, 4);
        bad("dry 7 soup;", STANDS_NOT, 6);
        bad("dry 7soup;", STANDS_NOT, 5);
        bad("kind soup;", STANDS_NOT, 5);
        bad("kind 0 soup 7;", STANDS_NOT, 7);
        bad("kind 0 grow 7 soup 8;", STANDS_NOT, 14);
        bad("kind 0 grow 7 dry 8;", STANDS_NOT, 14);
        bad("kind 0 growing 7;", STANDS_NOT, 7);
        bad("kind 0 gro 7;", STANDS_NOT, 7);
        bad("z".repeat(200), STANDS_NOT, 0);
    }

    private static void numberFault() {
        says("Part 2", "2 a NUMBER of four figures or more, or out of its bounds (at its first).");
        bad("dry 999;", NUMBER, 4);
        bad("dry 1000;", NUMBER, 4);
        bad("dry 0001;", NUMBER, 4);
        bad("dry    100;", NUMBER, 7);
        bad("dry100;", NUMBER, 3);
        bad("kind4grow1;", NUMBER, 4);
        bad("kind0grow100;", NUMBER, 9);
        bad("kind 0 grow 1 drain 1000;", NUMBER, 20);
        bad("after 31;", NUMBER, 6);
        bad("after 31", NUMBER, 6);
        bad("after 31soup", NUMBER, 6);
    }

    private static void againFault() {
        says("Part 2", "3 a name again in its clause (at its first letter).");
        for (String name : NAMES) {
            bad("kind 0 " + name + " 1 " + name + " 1;", AGAIN, 10 + name.length());
            good("kind 0 " + name + " 1;kind 0 " + name + " 1;", 2);
        }
        bad("kind 0 grow 1 drain 2 pass 3 settle 4 hold 5 hold 5;", AGAIN, 45);
        bad("kind 0 grow 1 drain 2 pass 3 settle 4 hold 5 grow", AGAIN, 45);
        bad("kind 0 grow 1grow 1;", AGAIN, 13);
        good("dry 1;dry 1;", 2);
    }

    private static void thirteenthFault() {
        says("Part 2", "4 a thirteenth clause (at its first letter).");
        good(TWELVE, 12);
        good(TWELVE + "   ", 12);
        bad(TWELVE + "dry 1;", THIRTEENTH, 72);
        bad(TWELVE + "  dry 1;", THIRTEENTH, 74);
        bad(TWELVE + "kind 0 grow 1;", THIRTEENTH, 72);
        bad(TWELVE + "dry", THIRTEENTH, 72);
        bad("dry7;".repeat(40), THIRTEENTH, 60);
        good("kind 0 grow 1;".repeat(12), 12);
        bad("kind 0 grow 1;".repeat(13), THIRTEENTH, 168);
    }

    // ---- promises 30 to 33

    private static void feedAnswers() {
        says("Promise 30", "come behind THE TEXT: how many it has.");
        SoupSand x = new SoupSand();
        int length = 0;
        for (int n = 1; n <= 8; n++) {
            length += n;
            due("feed of " + n, x.feed(n, 0x2020202020202020L), length);
        }
        due("count", x.count(8), 36);
        due("read", x.read(), 0);
        due("behind the empty TEXT", x.feed(3, 0), 3);
    }

    private static void feedHighestFirst() {
        says("Promise 30", "Up to eight bytes (n 1 .. 8) of a long, the highest of these first");
        SoupSand x = new SoupSand();
        x.feed(8, 0x6472792037372020L);
        x.feed(1, 0x777777777777773bL);
        due("'dry 77  ' and ';', by the lowest byte", x.read(), 1);
        due("dry", x.rule(20), 77);
        x.feed(3, -1L << 24 | 0x647279);
        x.feed(2, 0x5555555555553738L);
        x.feed(1, ';');
        due("bytes above these do not come", x.read(), 1);
        due("dry", x.rule(20), 78);
        x.feed(8, -1L);
        due("bytes of 255", x.read(), -11);
        x.feed(8, Long.MIN_VALUE | 0x2020202020202020L);
        due("a first byte of 160", x.read(), -11);
        due("its place", x.fault(), 0);
        x.feed(8, 0x20202020202020a0L);
        due("a last byte of 160", x.read(), -11);
        due("its place", x.fault(), 7);
        x.feed(8, 0L);
        due("bytes of 0", x.read(), -11);
    }

    private static void feedBounds() {
        says("Promise 30", "(n 1 .. 8)");
        SoupSand x = new SoupSand();
        due("1", x.feed(1, 0), 1);
        due("8", x.feed(8, 0), 9);
        Edge.refusesBeyond(BARE, 1, 8, "n", OUTSIDE, (y, n) -> y.feed(n, ' '));
        Edge.refusesBeyond(VILLAGE, 1, 8, "n", OUTSIDE, (y, n) -> y.feed(n, ' '));
    }

    private static void feedFull() {
        says("Promise 30", "how many it has. OUTSIDE, FULL.");
        Edge.Maker full = () -> withText(200);
        Edge.Maker almost = () -> withText(199);
        Edge.Maker roomForSeven = () -> withText(193);
        Edge.refuses(full, "1 behind 200", FULL, x -> x.feed(1, ' '));
        Edge.refuses(full, "8 behind 200", FULL, x -> x.feed(8, ' '));
        Edge.refuses(full, "0 behind 200", OUTSIDE, x -> x.feed(0, ' '));
        Edge.refuses(full, "9 behind 200", OUTSIDE, x -> x.feed(9, ' '));
        Edge.refuses(almost, "2 behind 199", FULL, x -> x.feed(2, 0x2020));
        due("1 behind 199", withText(199).feed(1, ' '), 200);
        Edge.refuses(roomForSeven, "8 behind 193", FULL, x -> x.feed(8, 0x2020202020202020L));
        due("7 behind 193", withText(193).feed(7, 0x20202020202020L), 200);
        SoupSand y = withText(200);
        due("what was refused is not read", y.feed(1, ';'), FULL);
        due("the rest is", y.read(), 1);
    }

    /** A text of so many bytes: one clause, then blanks. */
    private static SoupSand withText(int bytes) {
        SoupSand x = new SoupSand();
        Edge.feedText(x, "dry 7;" + " ".repeat(bytes - 6));
        return x;
    }

    private static void readAnswers() {
        says("Promise 31", "becomes THE RULES: how many clauses;");
        good("", 0);
        StringBuilder text = new StringBuilder();
        for (int many = 1; many <= 12; many++) {
            text.append("dry ").append(many).append(';');
            good(text.toString(), many);
            due("the last of " + many, Edge.ruled(text.toString()).rule(20), many);
        }
        bad(text + "dry 13;", THIRTEENTH, text.length());
    }

    private static void readEmpties() {
        says("Promise 31", "THE TEXT (it is empty then)");
        SoupSand x = new SoupSand();
        Edge.readText(x, "dry 7;");
        due("behind a good one", x.count(8), 0);
        due("nothing is read twice", x.read(), 0);
        due("dry is as at first", x.rule(20), 18);
        Edge.readText(x, "dry 7;soup");
        due("behind a bad one", x.count(8), 0);
        due("it leaves nothing", x.read(), 0);
    }

    private static void readFaults() {
        says("Promise 31", "-10 less the number of its FAULT");
        due("1", Edge.readText(new SoupSand(), "soup;"), -11);
        due("2", Edge.readText(new SoupSand(), "dry 0;"), -12);
        due("3", Edge.readText(new SoupSand(), "kind 0 grow 1 grow 1;"), -13);
        due("4", Edge.readText(new SoupSand(), TWELVE + "dry 1;"), -14);
    }

    private static void readAsTheyWere() {
        says("Promise 31", "(THE RULES are as they were)");
        String[] texts = {"dry 8;soup", "dry 8;wet 0;", "dry 8;kind 1 grow 8 grow 9;", TWELVE + "dry 8;", "dry 8", ";"};
        for (String text : texts) {
            SoupSand x = Edge.ruled("kind 1 grow 3;dry 7;after 2;");
            due("refused", Edge.readText(x, text) < -10 ? 1 : 0, 1);
            for (int what = 0; what < 25; what++) {
                int want = what == 5 ? 3 : what == 20 ? 7 : what == 24 ? 2 : FIRST[what];
                due("rule(" + what + ") behind '" + text + "'", x.rule(what), want);
            }
        }
    }

    private static void faultAnswers() {
        says("Promise 32", "The byte of the FAULT of the latest read(); NONE.");
        SoupSand x = new SoupSand();
        due("ahead of all", x.fault(), NONE);
        Edge.feedText(x, "soup");
        due("ahead of read", x.fault(), NONE);
        x.read();
        due("the first byte", x.fault(), 0);
        due("asked again", x.fault(), 0);
        Edge.readText(x, " ".repeat(199) + ";");
        due("the last byte", x.fault(), 199);
        Edge.readText(x, "dry" + " ".repeat(197));
        due("the end of a full text", x.fault(), 200);
    }

    private static void faultOfTheLatest() {
        says("Promise 32", "of the latest read()");
        SoupSand x = new SoupSand();
        Edge.readText(x, "dry 0;");
        due("a bad one", x.fault(), 4);
        Edge.feedText(x, "dry 1;");
        due("a good one is fed", x.fault(), 4);
        x.read();
        due("and read", x.fault(), NONE);
        Edge.readText(x, "after 31;");
        due("a bad one again", x.fault(), 6);
        x.read();
        due("the empty one", x.fault(), NONE);
    }

    private static void ruleAnswers() {
        says("Promise 33", "Of THE RULES: what = 5 K and 0 grow, 1 drain, 2 pass, 3 settle, 4 hold of KIND K; "
            + "20 dry, 21 wet, 22 flow, 23 mark, 24 after.");
        SoupSand x = Edge.ruled("kind 0 grow 1 drain 2 pass 3 settle 4 hold 5;kind 1 grow 6 drain 7 pass 8 settle 9 hold 10;"
            + "kind 2 grow 11 drain 12 pass 13 settle 14 hold 15;");
        for (int what = 0; what < 15; what++) due("rule(" + what + ")", x.rule(what), what + 1);
        SoupSand y = Edge.ruled("kind 3 grow 16 drain 17 pass 18 settle 19 hold 20;dry 21;wet 22;flow 23;mark 24;after 25;");
        for (int what = 15; what < 25; what++) due("rule(" + what + ")", y.rule(what), what + 1);
    }

    private static void ruleBounds() {
        says("Promise 33", "23 mark, 24 after. OUTSIDE.");
        due("the first", new SoupSand().rule(0), 20);
        due("the last", new SoupSand().rule(24), 0);
        Edge.refusesBeyond(BARE, 0, 24, "rule", OUTSIDE, (x, v) -> x.rule(v));
        Edge.refusesBeyond(VILLAGE, 0, 24, "rule", OUTSIDE, (x, v) -> x.rule(v));
    }
}
