/** The boundary cases of stories and of lost strokes: promises 23 to 32. */
public final class StoryBoundaries {
    private static final long TRILLION = 1_000_000_000_000L;
    /** East's gap is read of 100 sets; all sets are gaps in West. */
    private static final String HUNDRED_GAPS = "east a 12345;east b 12346 not 5;east c 123;east d 4567 not 1;"
        + "east e 456 not 17;east f 467 not 15";

    private static void mean(TwoWayWall x, int tongue, int... meanings) {
        x.forget(tongue);
        for (int meaning : meanings) {
            x.mean(tongue, meaning);
        }
    }

    // Promises 23 and 24.

    private static void means() {
        Bench.sentence(23, "A MEANING comes behind the STORY of a TONGUE: how long it is.");
        TwoWayWall x = new TwoWayWall();
        int[] meanings = {0, 7, 0, 7};
        for (int i = 1; i <= 4; i++) {
            Bench.due("mean(0, ..)", x.mean(0, meanings[i - 1]), i);
            Bench.due("count(7)", x.count(7), i);
            Bench.due("count(8)", x.count(8), 0);
        }
        Bench.due("mean(1, 7)", x.mean(1, 7), 1);
        for (int no : new int[] {-1, 8, 9, Bench.LEAST, Bench.MOST}) {
            Bench.refuses("mean(0, " + no + ")", y -> y.mean(0, no), -1);
            Bench.refuses("mean(1, " + no + ")", y -> y.mean(1, no), -1);
        }
        for (int no : new int[] {-1, 2, Bench.LEAST, Bench.MOST}) {
            Bench.refuses("mean(" + no + ", 0)", y -> y.mean(no, 0), -1);
        }
        Bench.sentence(23, "STORIES of both TONGUES are rows of MEANINGS, 4 at most each.");
        for (int tongue = 0; tongue < 2; tongue++) {
            int of = tongue;
            Bench.refuses(y -> mean(y, of, 0, 1, 2, 3), "mean(" + of + ", 0) of four", y -> y.mean(of, 0), -5);
            Bench.refuses(y -> mean(y, of, 3, 1, 2, 3), "mean(" + of + ", 7) of four", y -> y.mean(of, 7), -5);
        }
        Bench.due("mean(1, 0), East alone is full", x.mean(1, 0), 2);
        Bench.due("mean(0, 0), East is full", x.mean(0, 0), -5);
        x.forget(0);
        Bench.due("mean(0, 0) behind forget", x.mean(0, 0), 1);
        Bench.sentence(23, "The first of these in that order.");
        Bench.refuses(y -> mean(y, 0, 0, 0, 0, 0), "mean(0, 8) of four", y -> y.mean(0, 8), -1);
        Bench.refuses(y -> mean(y, 0, 0, 0, 0, 0), "mean(0, -1) of four", y -> y.mean(0, -1), -1);
        Bench.refuses(y -> mean(y, 1, 0, 0, 0, 0), "mean(2, 0) of four", y -> y.mean(2, 0), -1);
    }

    private static void forgets() {
        Bench.sentence(24, "The STORY of a TONGUE is empty: how long it was.");
        TwoWayWall x = new TwoWayWall();
        Bench.due("forget(0) of an empty one", x.forget(0), 0);
        Bench.due("status", x.status(), 0);
        mean(x, 0, 1, 1, 1, 1);
        mean(x, 1, 1, 1);
        Bench.due("forget(0)", x.forget(0), 4);
        Bench.due("count(7)", x.count(7), 0);
        Bench.due("count(8)", x.count(8), 2);
        Bench.due("forget(1)", x.forget(1), 2);
        Bench.due("forget(1)", x.forget(1), 0);
        Bench.due("tells() of empty stories", x.tells(), TRILLION);
        for (int no : new int[] {-1, 2, Bench.LEAST, Bench.MOST}) {
            Bench.refuses("forget(" + no + ")", y -> y.forget(no), -1);
        }
    }

    // Promises 25 to 28.

    private static void gapsAlone() {
        Bench.sentence(25, "(A STORY without MEANINGS: GAPS alone.)");
        TwoWayWall x = Bench.told("east a 1;west a 2;word east 0 a;word west 0 a");
        for (int n = 1; n <= 4; n++) {
            x.size(n);
            Bench.due("tells() of " + n, x.tells(), 1L << 5 * n);
            Bench.due("price() of " + n, x.price(), 0);
            Bench.due("first(n - 1) of " + n, x.first(n - 1), 0);
        }
        mean(x, 0, 0);
        Bench.due("tells() of four, East has a word of one", x.tells(), 0);
        x.size(1);
        Bench.due("tells() of one, West has gaps", x.tells(), 32);
        Bench.due("first(0)", x.first(0), 1);
        mean(x, 0);
        mean(x, 1, 0);
        Bench.due("tells() of one, East has gaps", x.tells(), 32);
        Bench.due("first(0)", x.first(0), 2);
        x.size(2);
        Bench.due("tells() of two", x.tells(), 0);
        Bench.tell(x, "word west 0 aa");
        Bench.due("tells() of two", x.tells(), 32 * 32);
    }

    private static void oneGapBetween() {
        Bench.sentence(25, "one GAP between each two, and nothing else");
        TwoWayWall x = Bench.told("east a 1;word east 0 a;word east 1 aa;word east 2 aaaaaa;word east 3 aaaaa;word east 4 aaaa");
        int[][] stories = {{0}, {0, 0}, {0, 0, 0}, {0, 0, 0, 0}, {1, 0, 1, 1}, {2, 2}, {2, 2, 1}, {2, 3, 1, 0}};
        int[] lengths = {1, 3, 5, 7, 10, 13, 16, 17};
        for (int i = 0; i < stories.length; i++) {
            mean(x, 0, stories[i]);
            Bench.due("lengths(-1) of story " + i, x.lengths(-1), lengths[i] > 16 ? 0 : 1);
            Bench.due("lengths(0) of story " + i, x.lengths(0), lengths[i] > 16 ? -1 : lengths[i]);
            for (int n = 1; n <= 16; n++) {
                x.size(n);
                boolean tells = n == lengths[i];
                Bench.due("tells() of story " + i + " in " + n, x.tells(), tells ? Math.min(TRILLION, 1L << 6 * Math.min(n, 9)) : 0);
                Bench.due("price() of story " + i + " in " + n, x.price(), tells ? n - stories[i].length + 1 : -1);
            }
        }
    }

    private static void wordsThatMeanSo() {
        Bench.sentence(25, "if each is read as WORDS with these MEANINGS in order");
        TwoWayWall x = Bench.told("east a 1;east b 2 not 1;word east 0 a;word east 0 a;word east 7 b;word east 0 b;word east 6 ab");
        x.size(1);
        mean(x, 0, 0);
        Bench.due("tells(), a told twice and b", x.tells(), 64 + 32);
        mean(x, 0, 7);
        Bench.due("tells(), b alone", x.tells(), 32);
        mean(x, 0, 6);
        Bench.due("tells(), a word of two", x.tells(), 0);
        mean(x, 0, 5);
        Bench.due("tells(), no such word", x.tells(), 0);
        x.size(3);
        mean(x, 0, 0, 7);
        Bench.due("tells(), a or b, then b", x.tells(), 96L * 32 * 32);
        mean(x, 0, 7, 0);
        Bench.due("first(0), b, then a or b", x.first(0), 2);
        Bench.due("first(2), the lowest", x.first(2), 1);
        mean(x, 0, 7, 5);
        Bench.due("tells(), no such word behind", x.tells(), 0);
        Bench.due("lengths(-1)", x.lengths(-1), 0);
    }

    /** A story of West begins at the last cell. */
    private static void westStory() {
        Bench.sentence(25, "A WALL of n CELLS TELLS both");
        TwoWayWall x = Bench.told("west a 1;west b 2 not 1;word west 0 ab;word west 1 a;cost 1 7");
        mean(x, 1, 0, 1);
        x.size(4);
        Bench.due("tells()", x.tells(), 64L * 32 * 32 * 64);
        int[] due = {1, 0, 2, 1};
        for (int i = 0; i < 4; i++) {
            Bench.due("first(" + i + ")", x.first(i), due[i]);
        }
        Bench.due("price()", x.price(), 15);
        TwoWayWall y = Bench.told("east a 1;west a 2 not 1;word east 0 a;word west 0 a");
        mean(y, 0, 0);
        mean(y, 1, 0);
        y.size(1);
        Bench.due("tells(), letters that never go together", y.tells(), 0);
        Bench.due("price()", y.price(), -1);
        Bench.due("first(0)", y.first(0), -1);
    }

    private static void mostTellings() {
        Bench.sentence(25, "How many TELLINGS there are (1,000,000,000,000 at most).");
        TwoWayWall x = Bench.told(HUNDRED_GAPS);
        long[] due = {100, 10_000, 1_000_000, 100_000_000, 10_000_000_000L, TRILLION, TRILLION, TRILLION};
        for (int n = 1; n <= 8; n++) {
            x.size(n);
            Bench.due("tells(), 100 ways each of " + n, x.tells(), due[n - 1]);
        }
        x.size(6);
        Bench.tell(x, "east g 4 not 123567");
        Bench.due("tells(), 99 ways each of 6", x.tells(), 941_480_149_401L);
        Bench.tell(x, "drop east g;drop east f;east g 4 not 12356;east h 5 not 123467");
        Bench.due("tells(), 101 ways each of 6", x.tells(), TRILLION);
        TwoWayWall y = new TwoWayWall();
        long ways = 1;
        for (int n = 1; n <= 16; n++) {
            ways = Math.min(TRILLION, ways * 128);
            y.size(n);
            Bench.due("tells() of a new object with " + n, y.tells(), ways);
        }
        Bench.asks("tells()", z -> z.tells(), 41_472);
    }

    private static void oneTelling() {
        Bench.sentence(25, "TELLINGS are such WALLS");
        TwoWayWall x = Bench.told("east a 5 not 123467;word east 0 a;word east 0 aa");
        mean(x, 0, 0);
        x.size(1);
        Bench.due("tells() of one wall alone", x.tells(), 1);
        Bench.due("price()", x.price(), 1);
        Bench.due("first(0)", x.first(0), 16);
        Bench.due("lengths(-1)", x.lengths(-1), 2);
        Bench.due("lengths(0)", x.lengths(0), 1);
        Bench.due("lengths(1)", x.lengths(1), 2);
    }

    /** What was found once must not stay behind a call that changes it. */
    private static void foundAnew() {
        Bench.sentence(25, "How many TELLINGS there are");
        TwoWayWall x = Bench.told("east a 1;west a 1;word east 0 a;word east 1 aa;word west 0 a");
        x.size(1);
        Bench.due("tells() of gaps", x.tells(), 64);
        x.mean(0, 0);
        Bench.due("tells() behind mean(0, 0)", x.tells(), 0);
        x.mean(1, 0);
        Bench.due("tells() behind mean(1, 0)", x.tells(), 64);
        Bench.due("first(0)", x.first(0), 1);
        x.image(0);
        x.forget(1);
        Bench.due("tells() behind forget(1)", x.tells(), 0);
        x.forget(0);
        Bench.due("tells() behind forget(0)", x.tells(), 64);
        Bench.due("first(0)", x.first(0), 0);
        x.back(0);
        Bench.due("first(0) behind back", x.first(0), 1);
        Bench.tell(x, "cost 1 50");
        Bench.due("price() behind tables of a cost", x.price(), 50);
        Bench.tell(x, "mirror 2134567");
        Bench.due("first(0) behind tables of a mirror", x.first(0), 3);
        Bench.tell(x, "west a 7");
        Bench.due("first(0) behind tables of a letter", x.first(0), 65);
        Bench.tell(x, "drop west a");
        Bench.due("tells() behind tables of a drop", x.tells(), 0);
        Bench.tell(x, "word west 0 b;west b 3");
        Bench.due("first(0) behind tables of a word", x.first(0), 5);
        x.size(2);
        Bench.due("tells() behind size", x.tells(), 0);
        x.size(1);
        x.paint(0, 127);
        x.lost(0, 127);
        Bench.due("tells() behind paint and lost, which they don't touch", x.tells(), 32);
    }

    private static void words(TwoWayWall x, String tongue, String... words) {
        StringBuilder b = new StringBuilder();
        for (String word : words) {
            b.append(b.length() == 0 ? "" : ";").append("word ").append(tongue).append(" 0 ").append(word);
        }
        Bench.tell(x, b.toString());
    }

    private static void eightLongWords() {
        Bench.sentence(25, "WORDS of a TONGUE, 8 at most");
        TwoWayWall x = Bench.sevenLetters();
        words(x, "east", "abcdef", "bcdefg", "cdefga", "defgab", "efgabc", "fgabcd", "gabcde", "abcdeg");
        words(x, "west", "gfedcb", "fedcba", "edcbag", "dcbagf", "cbagfe", "bagfed", "agfedc", "gfedca");
        for (int i = 0; i < 4; i++) {
            x.mean(0, 0);
            x.mean(1, 0);
        }
        Bench.due("lengths(-1), four words of six are too long", x.lengths(-1), 0);
        mean(x, 0, 0);
        mean(x, 1, 0);
        x.size(6);
        Bench.due("tells() of six", x.tells(), 8 * 8 * 64);
        mean(x, 0, 0, 0);
        mean(x, 1, 0, 0);
        x.size(13);
        Bench.due("tells() of thirteen", x.tells(), 64L * 64 * 8192);
        // The cheapest word of each tongue has all letters but that of three strokes: 2 + 2 + 2 + 1 + 1 + 1.
        Bench.due("price()", x.price(), 4 * 9);
        for (int cell = 0; cell < 13; cell++) {
            x.lost(cell, 127);
        }
        Bench.due("may() of thirteen", x.may(), 64L * 64 * 8192);
        Bench.due("often(6, 7), in the gap", x.often(6, 7), 64L * 64 * 4096);
        Bench.due("sure(6, 1)", x.sure(6, 1), 63);
        Bench.due("sure(6, 2)", x.sure(6, 2), 64);
    }

    private static void wordsThatShareABeginning() {
        Bench.sentence(25, "A WALL of n CELLS TELLS both, if each is read as WORDS");
        TwoWayWall x = Bench.sevenLetters();
        words(x, "east", "a", "b", "a", "c", "a", "b", "d", "a");
        mean(x, 0, 0);
        x.size(1);
        Bench.due("tells() of a, b, c, d, some told again", x.tells(), 4 * 2);
        TwoWayWall y = Bench.sevenLetters();
        words(y, "east", "a", "b", "c", "d", "e", "f", "g", "ab");
        mean(y, 0, 0);
        y.size(1);
        Bench.due("tells() of seven letters", y.tells(), 7 * 2);
        Bench.due("lengths(-1)", y.lengths(-1), 2);
        TwoWayWall z = Bench.told("east a 12 not 3;east b 2 not 1;east c 3 not 12;east d 4 not 123;east e 5 not 1234;"
            + "east f 6 not 12345;east g 7 not 123456;east h 1 not 2");
        words(z, "east", "a", "b", "c", "d", "e", "f", "g", "h");
        mean(z, 0, 0);
        z.size(1);
        Bench.due("tells() of eight letters", z.tells(), 16 + 32 + 16 + 8 + 4 + 2 + 1 + 32);
        TwoWayWall w = Bench.sevenLetters();
        words(w, "east", "a", "aa", "ab", "ac", "ad", "ae", "af", "ag");
        words(w, "west", "g", "gg", "gf", "ge", "gd", "gc", "gb", "ga");
        w.size(2);
        mean(w, 0, 0);
        mean(w, 1, 0);
        Bench.due("tells() of two", w.tells(), 7 * 7 * 4);
        w.size(3);
        mean(w, 0, 0, 0);
        mean(w, 1, 0, 0);
        Bench.due("tells() of three", w.tells(), 8);
        w.size(16);
        for (int cell = 0; cell < 16; cell++) {
            w.lost(cell, 127);
        }
        Bench.due("may() of sixteen, 2 to the 16 by stroke 7 times 7 to the 10 by words at least", w.may(), TRILLION);
        w.size(4);
        Bench.due("may() of four", w.may(), 14 * 14 * 16);
    }

    private static void prices() {
        Bench.sentence(26, "The least COST of TELLINGS. NONE.");
        TwoWayWall x = Bench.told("east a 1234567;word east 0 aaaa;word east 1 aaa;cost 1 99;cost 2 99;cost 3 99");
        Bench.tell(x, "cost 4 99;cost 5 99;cost 6 99;cost 7 99");
        mean(x, 0, 0, 1, 1, 1);
        x.size(16);
        Bench.due("price() of 13 letters", x.price(), 13 * 7 * 99);
        Bench.due("tells()", x.tells(), 127 * 127 * 127);
        Bench.tell(x, "cost 1 0;cost 2 0;cost 3 0;cost 4 0;cost 5 0;cost 6 0;cost 7 0");
        Bench.due("price() for nothing", x.price(), 0);
        x.size(15);
        Bench.due("price() without tellings", x.price(), -1);
        Bench.asks("price()", y -> y.price(), 10);
        Bench.asks(y -> y.size(5), "price() without tellings", y -> y.price(), -1);
        TwoWayWall y = Bench.told("east a 1;east b 2 not 1;word east 0 aa;word east 0 bbb;word east 0 bb;cost 1 2;cost 2 3");
        mean(y, 0, 0);
        y.size(2);
        Bench.due("price(), aa", y.price(), 4);
        y.size(3);
        Bench.due("price(), bbb", y.price(), 9);
    }

    private static void firstCells() {
        Bench.sentence(27, "CELL i of the FIRST. NONE.");
        int[] due = {5, 10, 0, 6};
        for (int i = 0; i < 4; i++) {
            int at = i;
            Bench.asks("first(" + i + ")", x -> x.first(at), due[i]);
            Bench.asks(x -> x.size(5), "first(" + i + ") without tellings", x -> x.first(at), -1);
        }
        for (int no : new int[] {-1, 4, 5, 16, Bench.LEAST, Bench.MOST}) {
            Bench.asks("first(" + no + ") of four", x -> x.first(no), -1);
        }
        TwoWayWall x = new TwoWayWall();
        x.size(16);
        Bench.due("first(15) of sixteen", x.first(15), 0);
        Bench.due("first(16) of sixteen", x.first(16), -1);
        x.size(1);
        Bench.due("first(0) of one", x.first(0), 0);
        Bench.due("first(1) of one", x.first(1), -1);
    }

    /** East's a is stroke 2, its b stroke 1: of ab and ba the latter is lower, whichever is told first. */
    private static void lowestOfAlike(String words) {
        Bench.sentence(27, "the least COST, of alike ones the lowest as a row of CELLS");
        TwoWayWall x = Bench.told("east a 2;east b 1 not 2;word east 1 aaaaaa;word east 2 aaaaaa;" + words);
        mean(x, 0, 0);
        x.size(2);
        Bench.due("first(0), ba is lower", x.first(0), 1);
        Bench.due("first(1)", x.first(1), 2);
        mean(x, 0, 1, 2, 0);
        x.size(16);
        Bench.due("first(14), told by the last two of sixteen", x.first(14), 1);
        Bench.due("first(15)", x.first(15), 2);
        Bench.due("first(13)", x.first(13), 0);
        Bench.due("first(12)", x.first(12), 2);
        mean(x, 0, 0, 1, 2);
        Bench.due("first(0), told by the first two of sixteen", x.first(0), 1);
        Bench.due("first(1)", x.first(1), 2);
        Bench.due("first(2)", x.first(2), 0);
        mean(x, 0, 1, 0);
        x.size(9);
        Bench.due("first(7), the eighth and the ninth", x.first(7), 1);
        Bench.due("first(8)", x.first(8), 2);
        mean(x, 0, 0, 0, 0);
        x.size(8);
        for (int i = 0; i < 8; i++) {
            Bench.due("first(" + i + ") of three words", x.first(i), (i + 1) % 3);
        }
    }

    /** Words of two that differ in the last cell alone, which is the second half's. */
    private static void lowestByTheLastCell(String words) {
        Bench.sentence(27, "of alike ones the lowest as a row of CELLS");
        TwoWayWall x = Bench.told("east a 3;east b 2 not 3;east c 1 not 23;word east 1 aaaaaa;word east 2 aaaaaa;" + words);
        mean(x, 0, 1, 2, 0);
        x.size(16);
        Bench.due("first(15), the lowest", x.first(15), 1);
        Bench.due("first(14)", x.first(14), 4);
        Bench.tell(x, "cost 1 2");
        Bench.due("first(15), the lowest of the cheapest", x.first(15), 2);
        Bench.tell(x, "cost 2 2");
        Bench.due("first(15), the cheapest", x.first(15), 4);
    }

    private static void costAheadOfLowest() {
        Bench.sentence(27, "the FIRST: the least COST");
        TwoWayWall x = Bench.told("east a 2;east b 1 not 2;word east 0 ab;word east 0 ba;word east 0 aa;cost 2 0");
        mean(x, 0, 0);
        x.size(2);
        Bench.due("first(0), aa is higher but costs less", x.first(0), 2);
        Bench.due("price()", x.price(), 0);
        TwoWayWall y = Bench.told("west a 2;west b 1 not 2;word west 0 ab;word west 0 ba");
        mean(y, 1, 0);
        y.size(2);
        Bench.due("first(0), West's ab by its cells", y.first(0), 1);
        Bench.due("first(1)", y.first(1), 2);
    }

    private static void lengths() {
        Bench.sentence(28, "How many n 1 .. 16 there are with TELLINGS (i NONE), the i-th. NONE.");
        TwoWayWall x = new TwoWayWall();
        Bench.due("lengths(-1) of a new object", x.lengths(-1), 16);
        for (int i = 0; i < 16; i++) {
            Bench.due("lengths(" + i + ")", x.lengths(i), i + 1);
        }
        Bench.due("lengths(16)", x.lengths(16), -1);
        Bench.tell(x, "east a 1;word east 0 a;word east 0 aaa;word east 0 aaaaaa;word east 1 aaaaaa");
        mean(x, 0, 0);
        int[] due = {3, 1, 3, 6, -1, -1};
        for (int i = -1; i < 5; i++) {
            Bench.due("lengths(" + i + ")", x.lengths(i), due[i + 1]);
        }
        mean(x, 0, 1, 0, 0);
        x.size(1);
        int[] some = {4, 10, 12, 14, 15, -1};
        for (int i = -1; i < 5; i++) {
            Bench.due("lengths(" + i + ") of 6 and twice 1, 3 or 6", x.lengths(i), some[i + 1]);
        }
        mean(x, 0, 5);
        Bench.due("lengths(-1) of a meaning without words", x.lengths(-1), 0);
        Bench.due("lengths(0) of a meaning without words", x.lengths(0), -1);
        Bench.asks("lengths(-1)", y -> y.lengths(-1), 1);
        Bench.asks("lengths(0)", y -> y.lengths(0), 4);
        for (int no : new int[] {-2, 1, 16, Bench.LEAST, Bench.MOST}) {
            Bench.asks("lengths(" + no + ")", y -> y.lengths(no), -1);
        }
    }

    // Promises 29 to 32.

    private static void losses() {
        Bench.sentence(29, "LOST STROKES of a CELL, as bits: what they were.");
        TwoWayWall x = new TwoWayWall();
        int was = 0;
        for (int set : new int[] {0, 1, 64, 126, 127, 0}) {
            Bench.due("lost(0, " + set + ")", x.lost(0, set), was);
            was = set;
        }
        Bench.due("lost(7, 127)", x.lost(7, 127), 0);
        Bench.due("of(7), which stays as it is painted", x.of(7), 0);
        for (int no : new int[] {-1, 128, 255, Bench.LEAST, Bench.MOST}) {
            Bench.refuses("lost(1, " + no + ")", y -> y.lost(1, no), -1);
        }
        for (int no : new int[] {-1, 4, 16, Bench.LEAST, Bench.MOST}) {
            Bench.refuses("lost(" + no + ", 1)", y -> y.lost(no, 1), -1);
        }
        Bench.refuses(y -> y.size(16), "lost(16, 1)", y -> y.lost(16, 1), -1);
        Bench.refuses(y -> y.size(1), "lost(1, 1)", y -> y.lost(1, 1), -1);
    }

    private static void oneWordAtLeast() {
        Bench.sentence(30, "as WORDS told of it (one at least) with one GAP between each two, and nothing else");
        TwoWayWall x = new TwoWayWall();
        x.size(1);
        x.lost(0, 127);
        Bench.due("may() without words", x.may(), 0);
        Bench.tell(x, "east a 1;west a 2;word east 0 a");
        Bench.due("may() without words of West", x.may(), 0);
        Bench.tell(x, "word west 0 a");
        Bench.due("may()", x.may(), 32);
        Bench.tell(x, "drop west a");
        Bench.due("may() without the letter", x.may(), 0);
        TwoWayWall y = Bench.told("east a 1;west a 1;word east 0 a;word east 0 a;word east 1 a;word west 0 a");
        for (int n = 1; n <= 16; n++) {
            y.size(n);
            y.lost(n - 1, 1);
            Bench.due("may() of " + n + ", one way if that is odd", y.may(), n % 2);
        }
        TwoWayWall z = Bench.told("east a 1;west a 1;word east 0 aa;word west 0 aa");
        z.size(5);
        for (int cell = 0; cell < 5; cell++) {
            z.paint(cell, cell == 2 ? 0 : 1);
        }
        Bench.due("may(), nothing lost, aa gap aa", z.may(), 1);
        z.paint(2, 1);
        Bench.due("may(), nothing lost, aaaaa", z.may(), 0);
        z.lost(2, 1);
        Bench.due("may(), the stroke between is lost", z.may(), 1);
        z.paint(2, 0);
        Bench.due("may(), painted or not it is lost", z.may(), 1);
        Bench.due("sure(2, 1)", z.sure(2, 1), 1);
    }

    /** Seven cells a gap a .. of one stroke each, with so many more lost that are free. */
    private static TwoWayWall freeStrokes(int free) {
        TwoWayWall x = Bench.told("east a 1;west a 1;word east 0 a;word west 0 a");
        x.size(7);
        for (int cell = 0; cell < 7; cell++) {
            int here = Math.max(0, Math.min(6, free - 6 * cell));
            x.lost(cell, (2 << here) - 1);
        }
        return x;
    }

    private static void mostWalls() {
        Bench.sentence(30, "How many WALLS it MAY HAVE BEEN (1,000,000,000,000 at most).");
        for (int free = 0; free <= 42; free++) {
            Bench.due("may() with " + free + " free strokes", freeStrokes(free).may(), Math.min(TRILLION, 1L << free));
        }
        TwoWayWall x = Bench.told("east a 1;west a 1;word east 0 a;word west 0 a");
        x.size(15);
        for (int cell = 0; cell < 15; cell++) {
            x.lost(cell, 127);
        }
        Bench.due("may() with 90 free strokes", x.may(), TRILLION);
        Bench.asks("may()", y -> y.may(), 4);
        Bench.asks(y -> y.paint(1, 0), "may() of none", y -> y.may(), 0);
    }

    private static void surely() {
        Bench.sentence(31, "SURE is a LOST STROKE that all these have, or none; OPEN is another one.");
        int[][] due = {{1, 64, 32}, {0, 0, 0}, {0, 3, 0}, {0, 0, 16}};
        for (int i = 0; i < 4; i++) {
            for (int w = 0; w < 3; w++) {
                int cell = i;
                int what = w;
                Bench.asks("sure(" + i + ", " + w + ")", x -> x.sure(cell, what), due[i][w]);
            }
        }
        TwoWayWall x = Bench.told("east a 1;west a 1;word east 0 a;word west 0 a");
        x.size(1);
        x.lost(0, 127);
        Bench.due("sure(0, 0) of all lost", x.sure(0, 0), 1);
        Bench.due("sure(0, 1) of all lost", x.sure(0, 1), 0);
        Bench.due("sure(0, 2) of all lost", x.sure(0, 2), 126);
        Bench.tell(x, "east a 1 not 234567");
        Bench.due("sure(0, 1)", x.sure(0, 1), 126);
        Bench.due("sure(0, 2)", x.sure(0, 2), 0);
        Bench.sentence(31, "NONE (it may have been none, too)");
        for (int w = 0; w < 3; w++) {
            int what = w;
            Bench.asks(y -> y.paint(1, 0), "sure(0, " + w + ") of none", y -> y.sure(0, what), -1);
            Bench.asks(y -> y.paint(1, 0), "sure(1, " + w + ") of none", y -> y.sure(1, what), -1);
            for (int no : new int[] {-1, 4, 16, Bench.LEAST, Bench.MOST}) {
                Bench.asks("sure(" + no + ", " + w + ")", y -> y.sure(no, what), -1);
            }
        }
        for (int no : new int[] {-1, 3, Bench.LEAST, Bench.MOST}) {
            Bench.asks("sure(0, " + no + ")", y -> y.sure(0, no), -1);
        }
    }

    private static void howOften() {
        Bench.sentence(32, "In how many of these WALLS STROKE 1 .. 7 of a CELL is there (1,000,000,000,000 at most). NONE.");
        int[][] due = {{4, 0, 4, 0, 0, 2, 0}, {0, 4, 0, 4, 0, 0, 0}, {0, 0, 0, 0, 0, 0, 0}, {0, 4, 4, 0, 2, 0, 0}};
        for (int i = 0; i < 4; i++) {
            for (int s = 1; s <= 7; s++) {
                int cell = i;
                int stroke = s;
                Bench.asks("often(" + i + ", " + s + ")", x -> x.often(cell, stroke), due[i][s - 1]);
            }
        }
        for (int no : new int[] {-1, 4, 16, Bench.LEAST, Bench.MOST}) {
            Bench.asks("often(" + no + ", 1)", x -> x.often(no, 1), -1);
        }
        for (int no : new int[] {0, -1, 8, 32, 33, Bench.LEAST, Bench.MOST}) {
            Bench.asks("often(0, " + no + ")", x -> x.often(0, no), -1);
        }
        Bench.asks(x -> x.paint(1, 0), "often(0, 1) of none", x -> x.often(0, 1), 0);
        for (int free = 1; free <= 42; free++) {
            TwoWayWall x = freeStrokes(free);
            Bench.due("often(0, 1) with " + free + " free strokes", x.often(0, 1), Math.min(TRILLION, 1L << free));
            Bench.due("often(0, 2) with " + free + " free strokes", x.often(0, 2), Math.min(TRILLION, 1L << free - 1));
            Bench.due("often(1, 1) with " + free + " free strokes", x.often(1, 1), 0);
        }
    }

    public static void main(String[] args) {
        means();
        forgets();
        gapsAlone();
        oneGapBetween();
        wordsThatMeanSo();
        westStory();
        mostTellings();
        oneTelling();
        foundAnew();
        eightLongWords();
        wordsThatShareABeginning();
        prices();
        firstCells();
        lowestOfAlike("word east 0 ab;word east 0 ba");
        lowestOfAlike("word east 0 ba;word east 0 ab");
        lowestByTheLastCell("word east 0 aa;word east 0 ab;word east 0 ac");
        lowestByTheLastCell("word east 0 ac;word east 0 ab;word east 0 aa");
        costAheadOfLowest();
        lengths();
        losses();
        oneWordAtLeast();
        mostWalls();
        surely();
        howOften();
        Bench.finish(23, 32);
    }
}
