/** The boundary cases of letters that go together and of texts: promises 16 to 22. */
public final class PairBoundaries {
    /** East's gap is read of 100 sets, c of 10, a of 4, b of 2; all sets are gaps in West. */
    private static final String HUNDRED_AND_TEN = "east a 12345;east b 12346 not 5;east c 123;east d 4567 not 1;"
        + "east e 456 not 17;east f 467 not 15";
    private static final int GAP = -1;
    private static final int GAP_BIT = 1 << 26;

    private static void pairNumbers() {
        Bench.sentence(16, "In how many ways two LETTERS (NONE: GAPS) GO TOGETHER (what 0), the LEAST (1).");
        Bench.asks("pair(0, 0, 0)", x -> x.pair(0, 0, 0), 16);
        Bench.asks("pair(0, 0, 1)", x -> x.pair(0, 0, 1), 5);
        Bench.asks("pair(1, 0, 0)", x -> x.pair(1, 0, 0), 24);
        Bench.asks("pair(-1, -1, 1)", x -> x.pair(GAP, GAP, 1), 0);
        for (int no : new int[] {-2, 26, 27, Bench.LEAST, Bench.MOST}) {
            Bench.asks("pair(" + no + ", 0, 0)", x -> x.pair(no, 0, 0), -1);
            Bench.asks("pair(0, " + no + ", 0)", x -> x.pair(0, no, 0), -1);
            Bench.asks("pair(0, " + no + ", 1)", x -> x.pair(0, no, 1), -1);
        }
        for (int no : new int[] {-1, 2, 3, Bench.LEAST, Bench.MOST}) {
            Bench.asks("pair(0, 0, " + no + ")", x -> x.pair(0, 0, no), -1);
            Bench.asks("pair(25, 25, " + no + ")", x -> x.pair(25, 25, no), -1);
        }
        TwoWayWall x = Bench.told("east z 7;west z 1");
        Bench.due("pair(25, 25, 0)", x.pair(25, 25, 0), 32);
        Bench.due("pair(25, 25, 1)", x.pair(25, 25, 1), 65);
        Bench.due("pair(-1, 25, 0)", x.pair(GAP, 25, 0), 32);
        Bench.due("pair(-1, 25, 1)", x.pair(GAP, 25, 1), 1);
        Bench.due("pair(25, -1, 1)", x.pair(25, GAP, 1), 64);
        Bench.due("pair(24, 25, 0)", x.pair(24, 25, 0), 0);
    }

    private static void theyDoNot() {
        Bench.sentence(16, "NONE (they do not, for 1)");
        TwoWayWall x = new TwoWayWall();
        Bench.due("pair(-1, -1, 0), no letters told", x.pair(GAP, GAP, 0), 128);
        Bench.due("pair(-1, -1, 1)", x.pair(GAP, GAP, 1), 0);
        Bench.due("pair(0, 0, 0)", x.pair(0, 0, 0), 0);
        Bench.due("pair(0, 0, 1)", x.pair(0, 0, 1), -1);
        Bench.due("pair(0, -1, 0)", x.pair(0, GAP, 0), 0);
        Bench.due("pair(-1, 0, 1)", x.pair(GAP, 0, 1), -1);
        Bench.tell(x, "east a 1234567;west a 1234567;east b 1 not 2;west b 2 not 1");
        Bench.due("pair(0, 0, 0), one way", x.pair(0, 0, 0), 1);
        Bench.due("pair(0, 0, 1)", x.pair(0, 0, 1), 127);
        Bench.due("pair(1, 1, 0), never", x.pair(1, 1, 0), 0);
        Bench.due("pair(1, 1, 1)", x.pair(1, 1, 1), -1);
        Bench.asks("pair(2, 0, 0), not told", y -> y.pair(2, 0, 0), 0);
        Bench.asks("pair(2, 0, 1), not told", y -> y.pair(2, 0, 1), -1);
        Bench.asks("pair(0, 1, 1), not told", y -> y.pair(0, 1, 1), -1);
    }

    private static void leastOfAlike() {
        Bench.sentence(16, "LEAST is the set with the least COST, of alike ones the lowest.");
        TwoWayWall x = Bench.told("east a 7;cost 1 0;cost 2 0");
        Bench.due("pair(0, -1, 1), with costs 0", x.pair(0, GAP, 1), 64);
        Bench.tell(x, "east a 1;east b 2;drop east a;cost 1 99;cost 2 1");
        Bench.due("pair(1, -1, 1)", x.pair(1, GAP, 1), 2);
        TwoWayWall y = Bench.told("east a 123 not 4;east b 12 not 5;west a 1 not 2;west c 2 not 1;cost 1 99;cost 2 99");
        Bench.due("pair(-1, -1, 1)", y.pair(GAP, GAP, 1), 0);
        Bench.due("pair(-1, 0, 1)", y.pair(GAP, 0, 1), 1);
        TwoWayWall z = Bench.told("east c 1 not 2;east d 2 not 1;west m 12;west n 7;cost 1 2;cost 2 1;cost 3 0");
        Bench.due("pair(-1, 12, 1), both of 1 and 2", z.pair(GAP, 12, 1), 3);
        Bench.due("pair(2, 13, 1)", z.pair(2, 13, 1), 65);
        TwoWayWall w = Bench.told("east a 67;east b 12;east c 345;drop east a;west a 1 not 2;west b 3;cost 1 0;cost 2 0");
        Bench.due("pair(-1, 1, 1), alike with and without stroke 2", w.pair(GAP, 1, 1), 4);
        TwoWayWall v = Bench.told("west a 1;west b 2;mirror 2134567;cost 2 99");
        Bench.due("pair(-1, 0, 1), a dear stroke that must be", v.pair(GAP, 0, 1), 2);
        Bench.due("pair(-1, 1, 1)", v.pair(GAP, 1, 1), 1);
    }

    private static void theCheaperIsHigher() {
        Bench.sentence(16, "sets of STROKES are read so");
        TwoWayWall x = Bench.told("west b 12 not 3;west c 3 not 1;east a 1 not 2;cost 1 9;cost 2 3;cost 3 2");
        Bench.due("pair(-1, 2, 1)", x.pair(GAP, 2, 1), 4);
        TwoWayWall y = Bench.told("east a 1 not 4567;east b 2 not 4567;east c 3 not 12;west a 3 not 1;cost 3 0");
        Bench.due("pair(1, 0, 0)", y.pair(1, 0, 0), 1);
        Bench.due("pair(2, 0, 0)", y.pair(2, 0, 0), 16);
        Bench.due("pair(-1, 0, 0)", y.pair(GAP, 0, 0), 15);
        Bench.due("pair(-1, 0, 1), stroke 2 and the lowest of 4 .. 7", y.pair(GAP, 0, 1), 14);
    }

    private static void partners() {
        Bench.sentence(17, "with one of EAST (NONE: a GAP), as bits; a GAP: bit 26. NONE.");
        Bench.asks("partners(0)", x -> x.partners(0), GAP_BIT | 5);
        Bench.asks("partners(-1)", x -> x.partners(GAP), GAP_BIT | 5);
        Bench.asks("partners(25), not told", x -> x.partners(25), 0);
        for (int no : new int[] {-2, 26, 27, Bench.LEAST, Bench.MOST}) {
            Bench.asks("partners(" + no + ")", x -> x.partners(no), -1);
        }
        TwoWayWall x = new TwoWayWall();
        Bench.due("partners(-1), no letters told", x.partners(GAP), GAP_BIT);
        Bench.due("partners(0), no letters told", x.partners(0), 0);
        Bench.tell(x, "east z 1;west a 1 not 2;west z 12;east y 7 not 1");
        Bench.due("partners(25), no gap", x.partners(25), 1 | 1 << 25);
        Bench.due("partners(24), a gap alone", x.partners(24), GAP_BIT);
        Bench.due("partners(-1)", x.partners(GAP), GAP_BIT);
        TwoWayWall y = Bench.told("east a 1234567;west b 1234567");
        Bench.due("partners(0), in one way", y.partners(0), 2);
        Bench.due("partners(-1)", y.partners(GAP), GAP_BIT);
        Bench.due("pairs(), in one way", y.pairs(), 1);
    }

    private static void pairsOfToldOnes() {
        Bench.sentence(18, "How many PAIRS of LETTERS that are told GO TOGETHER.");
        TwoWayWall x = new TwoWayWall();
        Bench.due("pairs() without letters", x.pairs(), 0);
        Bench.tell(x, "east a 1");
        Bench.due("pairs() without letters of West", x.pairs(), 0);
        Bench.tell(x, "west a 1");
        Bench.due("pairs() of one and one", x.pairs(), 1);
        Bench.tell(x, "west a 2 not 1");
        Bench.due("pairs() of two that do not", x.pairs(), 0);
        Bench.tell(x, "drop east a;west z 1 not 7;east z 1234567");
        Bench.due("pairs()", x.pairs(), 0);
        Bench.tell(x, "west z 1");
        Bench.due("pairs()", x.pairs(), 1);
        Bench.asks("pairs()", y -> y.pairs(), 4);
    }

    /** Many letters on both sides, each pair of which has one set at least. */
    private static void manyPairs() {
        Bench.sentence(18, "GO TOGETHER in as many ways");
        TwoWayWall x = Bench.sevenLetters();
        Bench.due("pairs()", x.pairs(), 49);
        Bench.due("partners(0)", x.partners(0), 127 | GAP_BIT);
        Bench.due("pair(0, 0, 0)", x.pair(0, 0, 0), 2);
        Bench.due("pair(6, 6, 1)", x.pair(6, 6, 1), 36);
    }

    /** East's letters are the sets of strokes 1 to 4, West's those of 5 to 7: no two sets are read alike. */
    private static void asManyPairsAsSets() {
        Bench.sentence(18, "two LETTERS (or GAPS), one of EAST, one of WEST, GO TOGETHER");
        String[] east = {"1234", "123", "124", "134", "234", "12", "13", "14", "23", "24", "34", "1", "2", "3", "4"};
        String[] west = {"567", "56", "57", "67", "5", "6", "7"};
        StringBuilder b = new StringBuilder("cost 1 1");
        for (int i = 0; i < 15; i++) {
            b.append(";east ").append((char) ('a' + i)).append(' ').append(east[i]);
        }
        for (int i = 0; i < 7; i++) {
            b.append(";west ").append((char) ('t' + i)).append(' ').append(west[i]);
        }
        TwoWayWall x = Bench.told(b.toString());
        Bench.due("pairs()", x.pairs(), 15 * 7);
        for (int i = GAP; i < 15; i++) {
            Bench.due("partners(" + i + ")", x.partners(i), 127 << 19 | GAP_BIT);
            Bench.due("pair(" + i + ", 25, 0)", x.pair(i, 25, 0), 1);
        }
        Bench.due("pair(14, 25, 1)", x.pair(14, 25, 1), 8 + 64);
        Bench.due("pair(0, 19, 1)", x.pair(0, 19, 1), 127);
        Bench.fill(x, 1, 0, 19);
        Bench.due("near(2), one way", x.near(2), 1);
        Bench.due("nearAt(0)", x.nearAt(0), 127);
        Bench.tell(x, "drop west z;drop east o");
        Bench.due("pairs() behind drops", x.pairs(), 14 * 6);
        Bench.due("pair(-1, -1, 0) behind drops", x.pair(GAP, GAP, 0), 4);
    }

    private static void says() {
        Bench.sentence(19, "A LETTER (NONE: a GAP) comes behind the TEXT of a TONGUE: how long it is.");
        TwoWayWall x = new TwoWayWall();
        for (int i = 1; i <= 16; i++) {
            Bench.due("say(0, ..)", x.say(0, i == 1 ? GAP : i == 2 ? 25 : 0), i);
            Bench.due("count(5)", x.count(5), i);
            Bench.due("count(6)", x.count(6), 0);
        }
        Bench.due("say(1, 25)", x.say(1, 25), 1);
        for (int no : new int[] {-2, 26, Bench.LEAST, Bench.MOST}) {
            Bench.refuses("say(0, " + no + ")", y -> y.say(0, no), -1);
            Bench.refuses("say(1, " + no + ")", y -> y.say(1, no), -1);
        }
        for (int no : new int[] {-1, 2, Bench.LEAST, Bench.MOST}) {
            Bench.refuses("say(" + no + ", 0)", y -> y.say(no, 0), -1);
        }
        Bench.sentence(19, "rows of LETTERS and GAPS, 16 at most each");
        for (int tongue = 0; tongue < 2; tongue++) {
            int of = tongue;
            Bench.refuses(y -> Bench.fill(y, 14, 1, 2), "say(" + of + ", 0) of sixteen", y -> y.say(of, 0), -5);
            Bench.refuses(y -> Bench.fill(y, 14, 1, 2), "say(" + of + ", -1) of sixteen", y -> y.say(of, GAP), -5);
        }
        Bench.due("say(1, 0), East alone is full", x.say(1, 0), 2);
        Bench.due("say(0, 0), East is full", x.say(0, 0), -5);
        x.hush(0);
        Bench.due("say(0, 0) behind hush", x.say(0, 0), 1);
        Bench.sentence(19, "The first of these in that order.");
        Bench.refuses(y -> Bench.fill(y, 14, 1, 2), "say(0, 26) of sixteen", y -> y.say(0, 26), -1);
        Bench.refuses(y -> Bench.fill(y, 14, 1, 2), "say(1, -2) of sixteen", y -> y.say(1, -2), -1);
        Bench.refuses(y -> Bench.fill(y, 14, 1, 2), "say(2, 0) of sixteen", y -> y.say(2, 0), -1);
    }

    private static void hushes() {
        Bench.sentence(20, "The TEXT of a TONGUE is empty: how long it was.");
        TwoWayWall x = new TwoWayWall();
        Bench.due("hush(0) of an empty one", x.hush(0), 0);
        Bench.due("status", x.status(), 0);
        Bench.fill(x, 16, 3, 4);
        Bench.due("hush(1)", x.hush(1), 16);
        Bench.due("count(6)", x.count(6), 0);
        Bench.due("count(5)", x.count(5), 16);
        Bench.due("hush(1)", x.hush(1), 0);
        Bench.due("hush(0)", x.hush(0), 16);
        Bench.due("near(0) of empty texts", x.near(0), 0);
        for (int no : new int[] {-1, 2, Bench.LEAST, Bench.MOST}) {
            Bench.refuses("hush(" + no + ")", y -> y.hush(no), -1);
        }
    }

    private static void notAsLong() {
        Bench.sentence(21, "(Both as long, else there is none.)");
        for (int length : new int[] {0, 1, 15, 16}) {
            TwoWayWall x = new TwoWayWall();
            Bench.fill(x, length, GAP, GAP);
            Bench.due("near(0) of " + length, x.near(0), 0);
            Bench.due("near(1) of " + length, x.near(1), 0);
            for (int tongue = 0; tongue < 2 && length < 16; tongue++) {
                TwoWayWall y = new TwoWayWall();
                Bench.fill(y, length, GAP, GAP);
                y.say(tongue, GAP);
                for (int what = 0; what < 3; what++) {
                    Bench.due("near(" + what + ") of " + length + " and one more", y.near(what), -1);
                }
                Bench.due("nearAt(0)", y.nearAt(0), -1);
            }
        }
        Bench.sentence(21, "NONE (not as long)");
        Bench.asks("near(0)", x -> x.near(0), 0);
        Bench.asks(x -> x.say(0, 0), "near(0), East longer", x -> x.near(0), -1);
        Bench.asks(x -> x.say(1, 0), "near(2), West longer", x -> x.near(2), -1);
        Bench.asks(x -> x.hush(0), "near(0), East empty", x -> x.near(0), -1);
        for (int no : new int[] {-1, 3, Bench.LEAST, Bench.MOST}) {
            Bench.asks("near(" + no + ")", x -> x.near(no), -1);
        }
    }

    private static void emptyTexts() {
        Bench.sentence(21, "a WALL of so many CELLS FITS, if both are read from it");
        TwoWayWall x = Bench.told("east a 1;west a 2;cost 1 50");
        Bench.due("near(0) of empty texts", x.near(0), 0);
        Bench.due("near(1) of empty texts", x.near(1), 0);
        Bench.due("near(2) of empty texts", x.near(2), 1);
        Bench.due("nearAt(0) of empty texts", x.nearAt(0), -1);
        x.size(1);
        Bench.fill(x, 16, 0, 0);
        Bench.due("near(0) of texts longer than the wall", x.near(0), 0);
        Bench.due("near(1)", x.near(1), 16 * 51);
        Bench.due("nearAt(15)", x.nearAt(15), 3);
    }

    private static void fewestWrong() {
        Bench.sentence(21, "WRONG are LETTERS and GAPS of both that are read otherwise");
        TwoWayWall x = Bench.told("east a 1;west b 2 not 1");
        int[][] texts = {{0, GAP, 0, 64}, {0, 1, 1, 96}, {GAP, 1, 0, 32}, {GAP, GAP, 0, 32}, {25, 25, 2, 128},
            {25, 1, 1, 32}, {0, 25, 1, 64}};
        for (int[] one : texts) {
            x.hush(0);
            x.hush(1);
            Bench.fill(x, 1, one[0], one[1]);
            Bench.due("near(0) of " + one[0] + ", " + one[1], x.near(0), one[2]);
            Bench.due("near(2) of " + one[0] + ", " + one[1], x.near(2), one[3]);
        }
        x.hush(0);
        x.hush(1);
        Bench.fill(x, 16, 25, 24);
        Bench.due("near(0), all wrong", x.near(0), 32);
    }

    private static void mostNear() {
        Bench.sentence(21, "in how many ways so few can be WRONG at any COST (2; 1,000,000,000 at most)");
        int[][] letters = {{GAP, GAP, GAP, GAP, 0, 1}, {GAP, GAP, GAP, GAP, 2}, {GAP, GAP, GAP, GAP, 2, 1},
            {GAP, GAP, GAP, GAP, GAP}, {GAP, GAP, GAP, GAP, 0, 0, 0}};
        int[] due = {800_000_000, 1_000_000_000, 1_000_000_000, 1_000_000_000, 1_000_000_000};
        for (int i = 0; i < letters.length; i++) {
            TwoWayWall x = Bench.told(HUNDRED_AND_TEN);
            for (int letter : letters[i]) {
                Bench.fill(x, 1, letter, GAP);
            }
            Bench.due("near(2), row " + i, x.near(2), due[i]);
            Bench.due("near(0), row " + i, x.near(0), 0);
        }
        TwoWayWall x = new TwoWayWall();
        long ways = 1;
        for (int n = 1; n <= 16; n++) {
            ways = Math.min(1_000_000_000, ways * 128);
            Bench.fill(x, 1, GAP, GAP);
            Bench.due("near(2) of " + n + " gaps", x.near(2), ways);
        }
    }

    private static void dearestNear() {
        Bench.sentence(21, "how many are WRONG at the fewest (what 0), the least COST then (1)");
        TwoWayWall x = Bench.told("east a 1234567;west a 1;cost 1 99;cost 2 99;cost 3 99;cost 4 99;cost 5 99;cost 6 99;cost 7 99");
        Bench.fill(x, 16, 0, 0);
        Bench.due("near(1), the dearest there is", x.near(1), 16 * 7 * 99);
        Bench.due("near(0)", x.near(0), 0);
        Bench.due("near(2)", x.near(2), 1);
        Bench.tell(x, "cost 1 0;cost 2 0;cost 3 0;cost 4 0;cost 5 0;cost 6 0;cost 7 0");
        Bench.due("near(1), for nothing", x.near(1), 0);
        Bench.due("nearAt(15)", x.nearAt(15), 127);
        Bench.sentence(21, "the fewest WRONG, then the least COST, then the lowest, CELL by CELL");
        TwoWayWall y = Bench.told("east a 12;west a 1 not 2;west b 3 not 1;cost 1 99;cost 2 98");
        Bench.fill(y, 1, 0, 1);
        Bench.due("near(0), two wrong would cost less", y.near(0), 1);
        Bench.due("near(1)", y.near(1), 1);
        Bench.due("nearAt(0)", y.nearAt(0), 4);
        y.hush(1);
        y.say(1, 0);
        Bench.due("near(0)", y.near(0), 1);
        Bench.due("near(1), West's a right is cheaper than East's", y.near(1), 99);
        Bench.due("nearAt(0)", y.nearAt(0), 1);
        TwoWayWall z = Bench.told("east a 1 not 2;east b 2 not 1;cost 3 0");
        Bench.fill(z, 2, 25, GAP);
        Bench.due("near(1), West's gap is right in all", z.near(1), 0);
        Bench.due("nearAt(0)", z.nearAt(0), 0);
        Bench.due("nearAt(1)", z.nearAt(1), 0);
    }

    /** Pairs that are as wrong as each other: which is cheaper, or lower, is not told by their order. */
    private static void lowestOfPairs() {
        Bench.sentence(22, "then the least COST, then the lowest, CELL by CELL");
        TwoWayWall x = Bench.told("west a 4 not 123;west w 4;east f 2 not 1;cost 1 5");
        Bench.fill(x, 1, 25, 22);
        Bench.due("near(0)", x.near(0), 1);
        Bench.due("near(1), strokes 2 and 4 or 3 and 4", x.near(1), 2);
        Bench.due("nearAt(0), the lower", x.nearAt(0), 10);
        Bench.tell(x, "cost 2 2");
        Bench.due("near(1), strokes 3 and 4", x.near(1), 2);
        Bench.due("nearAt(0), the cheaper", x.nearAt(0), 12);
    }

    private static void nearCells() {
        Bench.sentence(22, "CELL i of that WALL. NONE.");
        Bench.asks("nearAt(0)", x -> x.nearAt(0), 9);
        Bench.asks("nearAt(1)", x -> x.nearAt(1), 9);
        for (int no : new int[] {-1, 2, 3, 16, Bench.LEAST, Bench.MOST}) {
            Bench.asks("nearAt(" + no + ") of two", x -> x.nearAt(no), -1);
        }
        Bench.asks(x -> x.say(0, 0), "nearAt(0), East longer", x -> x.nearAt(0), -1);
        Bench.asks(x -> x.say(1, 0), "nearAt(0), West longer", x -> x.nearAt(0), -1);
        Bench.asks(x -> Bench.fill(x, 14, 1, 0), "nearAt(15) of sixteen", x -> x.nearAt(15), 10);
        Bench.asks(x -> Bench.fill(x, 14, 1, 0), "nearAt(16) of sixteen", x -> x.nearAt(16), -1);
        Bench.asks(x -> Bench.fill(x, 14, 1, 0), "nearAt(0) of sixteen", x -> x.nearAt(0), 5);
        Bench.sentence(22, "of alike ones the lowest");
        TwoWayWall x = Bench.told("east a 2;east b 1 not 2;west a 4;west b 3 not 4");
        Bench.fill(x, 1, 25, 25);
        Bench.due("nearAt(0), all wrong", x.nearAt(0), 0);
        x.hush(1);
        x.say(1, 1);
        Bench.due("nearAt(0), b of West", x.nearAt(0), 4);
        TwoWayWall y = Bench.told("east a 12;east b 3;west a 12;west b 3;west c 1 not 2;cost 3 2;cost 1 1;cost 2 1");
        Bench.fill(y, 1, 0, 1);
        Bench.due("near(1), stroke 3 or strokes 1 and 2", y.near(1), 2);
        Bench.due("nearAt(0)", y.nearAt(0), 3);
    }

    public static void main(String[] args) {
        pairNumbers();
        theyDoNot();
        leastOfAlike();
        theCheaperIsHigher();
        partners();
        pairsOfToldOnes();
        manyPairs();
        asManyPairsAsSets();
        says();
        hushes();
        notAsLong();
        emptyTexts();
        fewestWrong();
        mostNear();
        dearestNear();
        lowestOfPairs();
        nearCells();
        Bench.finish(16, 22);
    }
}
