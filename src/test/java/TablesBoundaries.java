/** The boundary cases of the tables and of what is read: promises 9 to 15. */
public final class TablesBoundaries {
    /** All of the text can be told to a new object. */
    private static TwoWayWall goes(String text, int clauses) {
        TwoWayWall x = new TwoWayWall();
        Bench.type(x, text);
        Bench.due("tables() of '" + text + "'", x.tables(), clauses);
        Bench.due("fault() of '" + text + "'", x.fault(), -1);
        Bench.due("status() of '" + text + "'", x.status(), 0);
        Bench.due("count(10) behind '" + text + "'", x.count(10), 0);
        return x;
    }

    private static void fails(String text, int place) {
        failsOn(new TwoWayWall(), text, place);
    }

    private static void failsOn(TwoWayWall x, String text, int place) {
        Bench.type(x, text);
        Bench.due("tables() of '" + text + "'", x.tables(), -6);
        Bench.due("fault() of '" + text + "'", x.fault(), place);
    }

    /** The same, and nothing but the tape and the fault is otherwise than without it. */
    private static void failsAndLeaves(String text, int place) {
        TwoWayWall x = Bench.rich();
        x.end(0);
        failsOn(x, text, place);
        Bench.refusesBut(y -> {
            y.end(0);
            Bench.type(y, text);
        }, "tables() of '" + text + "'", y -> y.tables(), -6, y -> y.end(0), false);
    }

    // Promise 9.

    private static void tapeIsEmptyThen() {
        Bench.sentence(9, "TABLES, the TAPE is empty then: how many CLAUSES.");
        TwoWayWall x = goes("cost 1 2", 1);
        Bench.due("row behind tables", x.row(), -6);
        Bench.type(x, "cost 1 2 3");
        x.tables();
        Bench.due("count(10) behind refused tables", x.count(10), 0);
        Bench.due("feed behind refused tables", x.feed(0, 0, 0, 0, 0), 20);
        goes("cost 1 2;cost 1 3", 2);
    }

    private static void blanksAlone() {
        Bench.sentence(9, "-6 (blanks alone: FAULT at the end; all stays)");
        failsAndLeaves("", 0);
        failsAndLeaves(" ", 1);
        failsAndLeaves("                    ", 20);
        failsAndLeaves(" ".repeat(400), 400);
        failsAndLeaves("\0", 0);
    }

    private static void allOfItOrNothing() {
        Bench.sentence(9, "CLAUSE by CLAUSE, if all of it can be");
        failsAndLeaves("east a 5;west z 6 not 1;word east 3 zz;word west 4 q;mirror 7654321;cost 4 44;drop east b;x", 90);
        failsAndLeaves("drop west a;drop west c;drop east a;drop east b;cost 1 1;mirror 1234567;cost 7", 78);
        TwoWayWall x = Bench.told("east a 1;word east 0 a");
        Bench.tell(x, "west b 2;word east 0 b");
        Bench.due("letter(0, 0, 0), told before", x.letter(0, 0, 0), 1);
        Bench.due("letter(1, 1, 0), told now", x.letter(1, 1, 0), 2);
        Bench.due("count(3)", x.count(3), 2);
        Bench.due("word(0, 0, 2)", x.word(0, 0, 2), 0);
        Bench.due("word(0, 1, 2)", x.word(0, 1, 2), 1);
    }

    private static void fourHundredBytes() {
        Bench.sentence(9, "TABLES are a TEXT on a TAPE of at most 400 bytes");
        String text = "word east 7 abcdef;" + " ".repeat(370) + "cost 7 99 ";
        TwoWayWall x = goes(text + " ", 2);
        Bench.due("count(28)", x.count(28), 99);
        Bench.due("word(0, 0, 7)", x.word(0, 0, 7), 5);
        fails(text + "?", 399);
        fails(text + ";", 400);
        fails(" ".repeat(399) + "a", 399);
        fails(" ".repeat(392) + "cost 1 ;", 399);
        fails(" ".repeat(394) + "cost 1", 400);
        goes(" ".repeat(392) + "cost 1 1", 1);
        goes("cost 1 " + "0".repeat(392) + "9", 1);
        fails("cost 1 " + "9".repeat(393), 7);
        fails("a".repeat(400), 0);
        fails("east a " + "1".repeat(393), 7);
    }

    private static void twentyFourClauses() {
        Bench.sentence(9, "CLAUSE {\";\" CLAUSE}, 24 at most (FAULT at the 25th's first TOKEN).");
        String twentyThree = "drop east a;".repeat(23);
        goes(twentyThree.substring(0, twentyThree.length() - 1), 23);
        TwoWayWall x = goes(twentyThree + "cost 2 3", 24);
        Bench.due("count(23)", x.count(23), 3);
        String twentyFour = twentyThree + "cost 2 3;";
        failsAndLeaves(twentyFour + "cost 3 4", 285);
        fails(twentyFour + "   cost 3 4", 288);
        fails(twentyFour + "  ?", 287);
        fails(twentyFour, 285);
        fails(twentyFour + "  ", 287);
        fails(twentyFour + ";", 285);
        fails(twentyThree + "cost 2 300;cost 3 4", 283);
        fails(twentyThree + "cost 2 3 cost 3 4", 285);
        fails("cost 1 1;".repeat(44), 216);
        goes("cost 1 1", 1);
        fails(";", 0);
        fails("cost 1 1;", 9);
        fails("cost 1 1;;cost 1 1", 9);
        fails(";cost 1 1", 0);
    }

    private static void tokens() {
        Bench.sentence(9, "TOKENS: longest rows of letters a .. z, of digits, single other bytes, any blanks (32) between.");
        goes("east a 1", 1);
        goes("   east    a   1   not   2  ;  drop  east a   ", 2);
        goes("east a1not2;west z7;word east0z;word west 7abcdef;mirror7654321;cost1 2;drop east q", 7);
        fails("easta 1", 0);
        fails("ea st a 1", 0);
        fails("cost 12", 5);
        fails("cost 1 1 2", 9);
        fails("mirror 123 4567", 7);
        fails("word east 0 ab cd", 15);
        fails("east a 1 2", 9);
        fails("east a 1n ot 2", 8);
        fails("east a 1nota2", 8);
        fails("cost 1 1;;", 9);
        for (int sign : new int[] {0, 9, 10, 13, 31, 33, 44, 47, 58, 64, 65, 90, 95, 96, 123, 127, 128, 160, 225, 255}) {
            fails("cost 1" + (char) sign + "1", 6);
            fails((char) sign + "cost 1 1", 0);
            fails("cost 1 1" + (char) sign, 8);
            fails("east " + (char) sign + " 1", 5);
            fails("east a 1" + (char) sign + "not 2", 8);
        }
        fails("cost 1 1;" + (char) 1 + (char) 2, 9);
        fails("Cost 1 1", 0);
        fails("EAST a 1", 0);
        fails("east A 1", 5);
        fails("word east 0 aB", 13);
    }

    private static void clauseHeads() {
        Bench.sentence(9, "TONGUE: \"east\" | \"west\".");
        goes("east a 1;west a 1;word east 0 a;word west 0 a;drop east a;drop west a", 6);
        for (String word : new String[] {"south", "eas", "easts", "wes", "wests", "wast", "not", "a", "1", "east1"}) {
            boolean tongue = word.equals("east1");
            fails("drop " + word + " a", tongue ? 9 : 5);
            fails("word " + word + " 1 a", tongue ? 11 : 5);
        }
        for (String word : new String[] {"wor", "words", "mirrors", "mirro", "costs", "cos", "drops", "dro", "1", "not"}) {
            fails(word + " east a 1", 0);
            fails("cost 1 1;" + word + " east a 1", 9);
        }
        fails("word", 4);
        fails("drop", 4);
        fails("mirror", 6);
        fails("cost", 4);
        fails("east", 4);
        fails("east;", 4);
        fails("word;", 4);
        fails("drop;", 4);
        fails("mirror;", 6);
        fails("cost;", 4);
    }

    private static void oneLetterAlone() {
        Bench.sentence(9, "L: one letter alone.");
        TwoWayWall x = goes("east a 1;east z 2;west a 3;west z 4;drop east z;drop west a", 6);
        Bench.due("letter(0, 0, 0)", x.letter(0, 0, 0), 1);
        Bench.due("letter(0, 25, 0)", x.letter(0, 25, 0), -1);
        Bench.due("letter(1, 0, 0)", x.letter(1, 0, 0), -1);
        Bench.due("letter(1, 25, 0)", x.letter(1, 25, 0), 8);
        for (String no : new String[] {"aa", "ab", "1", ";", "`", "{"}) {
            fails("east " + no + " 1", 5);
            fails("west " + no + " 1", 5);
            fails("drop east " + no, 10);
            fails("drop west " + no, 10);
        }
        fails("east a b 1", 7);
        fails("drop east a b", 12);
        fails("drop east", 9);
        fails("east ", 5);
    }

    private static void strokeRows() {
        Bench.sentence(9, "STROKES: a row of digits 1 .. 7, none twice, behind \"not\" none of those ahead (FAULT at the row).");
        TwoWayWall x = goes("east a 1234567;east b 7;east c 1 not 234567;west a 1 not 7;west b 123456 not 7;west c 7654321", 6);
        int[][] due = {{0, 0, 127, 0}, {0, 1, 64, 0}, {0, 2, 1, 126}, {1, 0, 1, 64}, {1, 1, 63, 64}, {1, 2, 127, 0}};
        for (int[] one : due) {
            Bench.due("letter(" + one[0] + ", " + one[1] + ", 0)", x.letter(one[0], one[1], 0), one[2]);
            Bench.due("letter(" + one[0] + ", " + one[1] + ", 1)", x.letter(one[0], one[1], 1), one[3]);
        }
        for (String no : new String[] {"0", "8", "9", "10", "01", "18", "11", "121", "1234561", "12345678", "11111111", "x"}) {
            fails("east a " + no, 7);
            fails("west a " + no + " not 2", 7);
            fails("east a 3 not " + no, 13);
        }
        for (String both : new String[] {"1", "21", "12", "7654321"}) {
            fails("east a 1 not " + both, 13);
        }
        fails("east a 1234567 not 7", 19);
        fails("east a 1 not", 12);
        fails("east a 1 not ;", 13);
        fails("east a 1 not not 2", 13);
        fails("east a 1 not 2 3", 15);
        fails("east a 1 not 2 not 3", 15);
        fails("east a not 2", 7);
        fails("east a", 6);
        fails("east a ;", 7);
        failsAndLeaves("east a 2;east b 1 not 1", 22);
    }

    private static void meanings() {
        Bench.sentence(9, "MEANING 0 .. 7.");
        for (int meaning = 0; meaning <= 7; meaning++) {
            TwoWayWall x = goes("word east " + meaning + " a", 1);
            Bench.due("word(0, 0, 0)", x.word(0, 0, 0), meaning);
        }
        for (String no : new String[] {"8", "9", "10", "77", "4294967296", "4294967303", "18446744073709551616", "a", ";"}) {
            fails("word east " + no + " a", 10);
            fails("word west " + no + " a", 10);
        }
        fails("word east", 9);
        fails("word east -1 a", 10);
        failsAndLeaves("word east 7 a;word east 8 a", 24);
    }

    private static void wordLengths() {
        Bench.sentence(9, "LETTERS: a row of 1 .. 6 letters.");
        for (int length = 1; length <= 6; length++) {
            TwoWayWall x = goes("word west 0 " + "zyxwva".substring(0, length), 1);
            Bench.due("word(1, 0, 1)", x.word(1, 0, 1), length);
        }
        fails("word west 0", 11);
        fails("word west 0 ", 12);
        fails("word west 0 ;", 12);
        fails("word west 0 1", 12);
        fails("word west 0 abcdefg", 12);
        fails("word west 0 " + "a".repeat(300), 12);
        fails("word west 0 abc def", 16);
        fails("word west 0 abc1", 15);
        failsAndLeaves("word west 0 abcdef;word west 0 abcdefg", 31);
    }

    private static void sevenDigits() {
        Bench.sentence(9, "SEVEN: seven digits, 1 .. 7 each once.");
        TwoWayWall x = goes("mirror 7123456", 1);
        int[] due = {7, 1, 2, 3, 4, 5, 6};
        for (int i = 0; i < 7; i++) {
            Bench.due("count(" + (15 + i) + ")", x.count(15 + i), due[i]);
        }
        String[] wrong = {"123456", "12345671", "12345678", "1234566", "1134567", "1234568", "0123456", "1234560",
            "01234567", "7", "abcdefg", ";", "1"};
        for (String no : wrong) {
            fails("mirror " + no, 7);
        }
        fails("mirror", 6);
        fails("mirror 1234567 1", 15);
        fails("mirror 1234567a", 14);
        failsAndLeaves("mirror 7654321;mirror 765432", 22);
    }

    private static void costs() {
        Bench.sentence(9, "STROKE 1 .. 7, NUMBER 0 .. 99.");
        for (int stroke = 1; stroke <= 7; stroke++) {
            TwoWayWall x = goes("cost " + stroke + " 0", 1);
            for (int other = 1; other <= 7; other++) {
                Bench.due("count(" + (21 + other) + ")", x.count(21 + other), other == stroke ? 0 : 1);
            }
        }
        for (int number : new int[] {0, 1, 9, 10, 98, 99}) {
            Bench.due("count(28)", goes("cost 7 " + number, 1).count(28), number);
        }
        for (String no : new String[] {"0", "8", "9", "10", "11", "71", "4294967297", "a", ";", "-"}) {
            fails("cost " + no + " 1", 5);
        }
        for (String no : new String[] {"100", "999", "1000", "4294967296", "18446744073709551616", "a", ";", "-"}) {
            fails("cost 1 " + no, 7);
        }
        fails("cost 1", 6);
        fails("cost", 4);
        failsAndLeaves("cost 7 99;cost 7 100", 17);
    }

    private static void toldAgain() {
        Bench.sentence(9, "A LETTER told again is as told last; \"drop\" leaves it untold.");
        TwoWayWall x = goes("east a 12 not 3;east a 4;west a 1", 3);
        Bench.due("letter(0, 0, 0)", x.letter(0, 0, 0), 8);
        Bench.due("letter(0, 0, 1)", x.letter(0, 0, 1), 0);
        Bench.due("count(1)", x.count(1), 1);
        Bench.tell(x, "east a 5 not 67");
        Bench.due("letter(0, 0, 0)", x.letter(0, 0, 0), 16);
        Bench.due("letter(0, 0, 1)", x.letter(0, 0, 1), 96);
        Bench.tell(x, "drop east a");
        Bench.due("letter(0, 0, 0)", x.letter(0, 0, 0), -1);
        Bench.due("letter(0, 0, 1)", x.letter(0, 0, 1), -1);
        Bench.due("letter(1, 0, 0)", x.letter(1, 0, 0), 1);
        Bench.due("reads(0, 16)", x.reads(0, 16), -1);
        Bench.due("count(1)", x.count(1), 0);
        Bench.due("count(2)", x.count(2), 1);
        Bench.tell(x, "drop east a;drop west z");
        Bench.due("count(1), dropped again", x.count(1), 0);
        Bench.tell(x, "drop west a;west a 2;drop east b;east b 3;drop east b");
        Bench.due("letter(1, 0, 0)", x.letter(1, 0, 0), 2);
        Bench.due("letter(0, 1, 0)", x.letter(0, 1, 0), -1);
    }

    private static void allLetters() {
        Bench.sentence(9, "LETTERS a .. z are 0 .. 25.");
        TwoWayWall x = new TwoWayWall();
        for (int half = 0; half < 4; half++) {
            StringBuilder b = new StringBuilder();
            for (int i = 0; i < 13; i++) {
                String tongue = half < 2 ? "east " : "west ";
                b.append(i == 0 ? "" : ";").append(tongue).append((char) ('a' + half % 2 * 13 + i)).append(" 1 not 2");
            }
            Bench.tell(x, b.toString());
        }
        Bench.due("count(1)", x.count(1), 26);
        Bench.due("count(2)", x.count(2), 26);
        for (int letter = 0; letter < 26; letter++) {
            Bench.due("letter(0, " + letter + ", 0)", x.letter(0, letter, 0), 1);
            Bench.due("letter(1, " + letter + ", 1)", x.letter(1, letter, 1), 2);
        }
    }

    // Promise 10.

    private static void firstToken() {
        Bench.sentence(10, "FAULT: the first TOKEN that can't go on there (the end's: the TEXT's length)");
        fails("north a 9", 0);
        fails("   north", 3);
        fails("east aa 9 9", 5);
        fails("cost 9 100", 5);
        fails("cost 1", 6);
        fails("cost 1    ", 10);
        fails("cost 1 1;   ", 12);
        fails("cost 1 1  x  y", 10);
        fails("cost 1 1;east a 1;cost 0 0;cost 0 0", 23);
        fails("cost 1 1 ; ; ", 11);
    }

    private static void fullTongue() {
        Bench.sentence(10, "also a \"word\" for which there is no room (at it)");
        String eight = "word east 0 a;".repeat(8);
        TwoWayWall x = goes(eight + "word west 1 b", 9);
        failsOn(x, "word east 1 b", 0);
        failsOn(x, "  word east 1 b", 2);
        failsOn(x, "cost 1 1;word east 1 b;?", 9);
        failsOn(x, "word east 9 b", 0);
        failsOn(x, "word east 9", 0);
        failsOn(x, "word east", 0);
        failsOn(x, "word east 1 abcdefg", 0);
        failsOn(x, "?;word east 1 b", 0);
        failsOn(x, "cost 1 1 word east 1 b", 9);
        failsOn(x, "word north 1 b", 5);
        failsOn(x, "word west 9 b;word east 1 b", 10);
        failsOn(x, "word west 1 c;word east 1 b", 14);
        Bench.due("count(4), the word behind which there was no room", x.count(4), 1);
        Bench.tell(x, ("word west 1 c;").repeat(6) + "word west 1 d");
        failsOn(x, "word west 1 c", 0);
        Bench.due("count(3)", x.count(3), 8);
        Bench.due("count(4)", x.count(4), 8);
        fails(eight + "word east 0 a", 112);
        fails(eight + "  word east 0 abcdefg", 114);
        failsAndLeaves("word east 0 a;".repeat(6) + "word east 0 a", 84);
        TwoWayWall y = Bench.told("word east 0 a;".repeat(6) + "word east 0 a");
        failsOn(y, "word east 1 b;word east 1 c", 14);
        Bench.due("count(3), seven stay", y.count(3), 7);
        Bench.tell(y, "word east 1 b");
        Bench.due("word(0, 7, 0)", y.word(0, 7, 0), 1);
    }

    private static void latestFault() {
        Bench.sentence(10, "FAULT of the latest tables(): its place; NONE without.");
        TwoWayWall x = new TwoWayWall();
        Bench.due("fault ahead of any", x.fault(), -1);
        failsOn(x, "cost 1 1;cost", 13);
        x.row();
        x.size(0);
        x.image(0);
        x.back(0);
        x.feed(0, 0, 0, 0, 0);
        Bench.due("fault behind other calls", x.fault(), 13);
        x.end(0);
        failsOn(x, "", 0);
        Bench.tell(x, "cost 1 1");
        Bench.due("fault behind tables that could be", x.fault(), -1);
        failsOn(x, " ?", 1);
        x.row();
        Bench.due("fault behind a refused row", x.fault(), 1);
        Bench.asks("fault()", y -> y.fault(), 13);
    }

    // Promises 11 and 12.

    private static void lettersAsked() {
        Bench.sentence(11, "NONE (not told, too)");
        Bench.asks("letter(0, 0, 0)", x -> x.letter(0, 0, 0), 1);
        Bench.asks("letter(0, 0, 1)", x -> x.letter(0, 0, 1), 64);
        Bench.asks("letter(1, 0, 1)", x -> x.letter(1, 0, 1), 0);
        Bench.asks("letter(0, 2, 0)", x -> x.letter(0, 2, 0), -1);
        Bench.asks("letter(0, 2, 1)", x -> x.letter(0, 2, 1), -1);
        Bench.asks("letter(1, 1, 0)", x -> x.letter(1, 1, 0), -1);
        Bench.asks("letter(0, 25, 0)", x -> x.letter(0, 25, 0), -1);
        for (int no : new int[] {-1, 2, Bench.LEAST, Bench.MOST}) {
            Bench.asks("letter(" + no + ", 0, 0)", x -> x.letter(no, 0, 0), -1);
            Bench.asks("letter(0, 0, " + no + ")", x -> x.letter(0, 0, no), -1);
        }
        for (int no : new int[] {-1, 26, 32, Bench.LEAST, Bench.MOST}) {
            Bench.asks("letter(0, " + no + ", 0)", x -> x.letter(0, no, 0), -1);
            Bench.asks("letter(1, " + no + ", 1)", x -> x.letter(1, no, 1), -1);
        }
        Bench.asks(x -> {
            x.end(0);
            Bench.tell(x, "east z 7 not 1");
        }, "letter(0, 25, 0)", x -> x.letter(0, 25, 0), 64);
    }

    private static void wordsAsked() {
        Bench.sentence(12, "Of a WORD of a TONGUE its MEANING (what 0), how long it is (1), its LETTERS (2 .. 7). NONE.");
        TwoWayWall x = Bench.told("word east 7 zyxwva;word east 0 a;word west 3 bc");
        int[] six = {7, 6, 25, 24, 23, 22, 21, 0, -1, -1};
        int[] one = {0, 1, 0, -1, -1, -1, -1, -1, -1, -1};
        int[] two = {3, 2, 1, 2, -1, -1, -1, -1, -1, -1};
        for (int what = 0; what < 10; what++) {
            Bench.due("word(0, 0, " + what + ")", x.word(0, 0, what), six[what]);
            Bench.due("word(0, 1, " + what + ")", x.word(0, 1, what), one[what]);
            Bench.due("word(1, 0, " + what + ")", x.word(1, 0, what), two[what]);
            Bench.due("word(1, 1, " + what + ")", x.word(1, 1, what), -1);
        }
        for (int no : new int[] {-1, 2, 8, Bench.LEAST, Bench.MOST}) {
            Bench.asks("word(0, " + no + ", 0)", y -> y.word(0, no, 0), -1);
            Bench.asks("word(1, " + no + ", 1)", y -> y.word(1, no, 1), -1);
            Bench.asks("word(" + no + ", 0, 0)", y -> y.word(no, 0, 0), -1);
        }
        for (int no : new int[] {-1, 4, 8, Bench.LEAST, Bench.LEAST + 1, Bench.LEAST + 2, Bench.MOST}) {
            Bench.asks("word(0, 0, " + no + ") of a word of two", y -> y.word(0, 0, no), -1);
        }
        Bench.asks("word(1, 1, 3)", y -> y.word(1, 1, 3), 0);
    }

    private static void eightWords() {
        Bench.sentence(12, "WORDS of a TONGUE, 8 at most, in order, each with its MEANING");
        TwoWayWall x = Bench.told("word west 0 a;word west 1 b;word west 2 c;word west 3 d;word west 4 e");
        Bench.tell(x, "word west 5 f;word west 6 g;word west 7 h");
        for (int word = 0; word < 8; word++) {
            Bench.due("word(1, " + word + ", 0)", x.word(1, word, 0), word);
            Bench.due("word(1, " + word + ", 2)", x.word(1, word, 2), word);
        }
        Bench.due("word(1, 8, 0)", x.word(1, 8, 0), -1);
        Bench.due("count(4)", x.count(4), 8);
        Bench.sentence(12, "the same WORD of the same MEANING told again is one more");
        TwoWayWall y = Bench.told("word west 5 ab;word west 5 ab;word west 6 ab");
        Bench.due("count(4)", y.count(4), 3);
        Bench.due("word(1, 1, 0)", y.word(1, 1, 0), 5);
        Bench.due("word(1, 1, 3)", y.word(1, 1, 3), 1);
        Bench.due("word(1, 2, 0)", y.word(1, 2, 0), 6);
        Bench.tell(y, "word west 5 ab;word west 5 ab;word west 5 ab;word west 5 ab;word west 5 ab");
        Bench.due("count(4)", y.count(4), 8);
        failsOn(y, "word west 5 ab", 0);
    }

    // Promises 13 to 15.

    private static void firstLetterOrGap() {
        Bench.sentence(13, "a CELL is the first LETTER of that TONGUE (a ahead of b) for which that is so, else a GAP (NONE)");
        TwoWayWall x = Bench.told("east z 1;east y 12;east b 123 not 4;east a 1234567");
        Bench.due("reads(0, 0)", x.reads(0, 0), -1);
        Bench.due("reads(0, 1)", x.reads(0, 1), 25);
        Bench.due("reads(0, 3)", x.reads(0, 3), 24);
        Bench.due("reads(0, 7)", x.reads(0, 7), 1);
        Bench.due("reads(0, 15)", x.reads(0, 15), 24);
        Bench.due("reads(0, 126)", x.reads(0, 126), -1);
        Bench.due("reads(0, 127)", x.reads(0, 127), 0);
        Bench.due("reads(1, 127)", x.reads(1, 127), -1);
        Bench.tell(x, "drop east a;drop east y");
        Bench.due("reads(0, 127)", x.reads(0, 127), 25);
        Bench.sentence(13, "As which LETTER a set of STROKES 0 .. 127 is read in a TONGUE. NONE (a GAP, too).");
        Bench.asks("reads(0, 127), a gap by 'not 7', then b", y -> y.reads(0, 127), 1);
        Bench.asks("reads(0, 0)", y -> y.reads(0, 0), -1);
        for (int no : new int[] {-1, 128, 129, 255, Bench.LEAST, Bench.MOST}) {
            Bench.asks("reads(0, " + no + ")", y -> y.reads(0, no), -1);
            Bench.asks("reads(1, " + no + ")", y -> y.reads(1, no), -1);
        }
        for (int no : new int[] {-1, 2, Bench.LEAST, Bench.MOST}) {
            Bench.asks("reads(" + no + ", 5)", y -> y.reads(no, 5), -1);
        }
    }

    private static void mirrorEdges() {
        Bench.sentence(13, "each STROKE k is seen there as MIRROR of k");
        TwoWayWall x = Bench.told("west a 1;west b 7 not 1;east a 1;mirror 7123456");
        Bench.due("reads(1, 1), seen as 7", x.reads(1, 1), 1);
        Bench.due("reads(1, 2), seen as 1", x.reads(1, 2), 0);
        Bench.due("reads(1, 3), seen as 1 and 7", x.reads(1, 3), 0);
        Bench.due("reads(1, 64), seen as 6", x.reads(1, 64), -1);
        Bench.due("reads(0, 1), which has no mirror", x.reads(0, 1), 0);
        Bench.due("letter(1, 0, 0), as it is told", x.letter(1, 0, 0), 1);
    }

    private static void readAtTheEnds() {
        Bench.sentence(14, "EAST is read from CELL 0 on; WEST from the last CELL on");
        TwoWayWall x = Bench.told("east a 1;east b 2;west a 1;west b 2");
        for (int n : new int[] {1, 2, 15, 16}) {
            x.size(n);
            for (int cell = 0; cell < n; cell++) {
                x.paint(cell, cell == 0 ? 1 : cell == n - 1 ? 2 : 0);
            }
            int last = n == 1 ? 0 : 1;
            Bench.due("read(0, 0) of " + n, x.read(0, 0), 0);
            Bench.due("read(0, n - 1) of " + n, x.read(0, n - 1), last);
            Bench.due("read(1, 0) of " + n, x.read(1, 0), last);
            Bench.due("read(1, n - 1) of " + n, x.read(1, n - 1), 0);
            Bench.due("read(0, n) of " + n, x.read(0, n), -1);
            Bench.due("read(1, n) of " + n, x.read(1, n), -1);
        }
        Bench.sentence(14, "The i-th LETTER that is read of the WALL in a TONGUE. NONE (a GAP, too).");
        int[] east = {0, 1, -1, 1};
        int[] west = {0, -1, 2, 0};
        for (int i = 0; i < 4; i++) {
            int at = i;
            Bench.asks("read(0, " + i + ")", y -> y.read(0, at), east[i]);
            Bench.asks("read(1, " + i + ")", y -> y.read(1, at), west[i]);
        }
        for (int no : new int[] {-1, 4, 16, Bench.LEAST, Bench.MOST}) {
            Bench.asks("read(0, " + no + ")", y -> y.read(0, no), -1);
            Bench.asks("read(1, " + no + ")", y -> y.read(1, no), -1);
        }
        for (int no : new int[] {-1, 2, Bench.LEAST, Bench.MOST}) {
            Bench.asks("read(" + no + ", 0)", y -> y.read(no, 0), -1);
        }
    }

    /** East's reading of cells that are a, b or a gap (a dot), as words a, ab and aaaaaa. */
    private static long spokenEast(String cells) {
        TwoWayWall x = Bench.told("east a 1;east b 2;word east 0 a;word east 0 ab;word east 0 aaaaaa");
        Bench.type(x, cells.replace('a', '\1').replace('b', '\2').replace('.', '\0'));
        x.row();
        return x.spoken(0);
    }

    private static void wordsAndNothingElse() {
        Bench.sentence(15, "one GAP between each two, and nothing else: how many WORDS (0: not, nothing is read)");
        String[] yes = {"a", "ab", "aaaaaa", "a.a", "ab.a.aaaaaa", "a.a.a.a.a.a.a.a", "aaaaaa.aaaaaa.ab"};
        for (String cells : yes) {
            Bench.due("spoken(0) of " + cells, spokenEast(cells), cells.split("\\.").length);
        }
        String[] no = {".", "..", "b", "aa", "aba", "ba", ".a", "a.", "a..a", "a.b", "b.a", "aaaaa", "aaaaaaa", "a.a.", ".a.a",
            "................", "aaaaaaaaaaaaaaaa", "a.a.a.a.a.a.a.a.", ".a.a.a.a.a.a.a.a"};
        for (String cells : no) {
            Bench.due("spoken(0) of " + cells, spokenEast(cells), 0);
        }
        TwoWayWall x = new TwoWayWall();
        Bench.due("spoken(0) without words", x.spoken(0), 0);
        Bench.tell(x, "east a 1;word west 0 a");
        x.size(1);
        x.paint(0, 1);
        Bench.due("spoken(0) without words of that tongue", x.spoken(0), 0);
        Bench.due("spoken(1) of a letter that is not told", x.spoken(1), 0);
        Bench.tell(x, "word east 0 a;word east 0 a;word east 1 a");
        Bench.due("spoken(0) of a word told three times", x.spoken(0), 1);
        Bench.asks("spoken(0)", y -> y.spoken(0), 2);
        Bench.asks("spoken(1)", y -> y.spoken(1), 2);
        Bench.sentence(15, "one GAP between each two, and nothing else: how many WORDS (0: not, nothing is read). NONE.");
        for (int tongue : new int[] {-1, 2, Bench.LEAST, Bench.MOST}) {
            Bench.asks("spoken(" + tongue + ")", y -> y.spoken(tongue), -1);
        }
    }

    /** Words of west begin at the last cell. */
    private static void westWords() {
        Bench.sentence(15, "Whether the WALL is read in a TONGUE as WORDS");
        TwoWayWall x = Bench.told("west a 1;west b 2;word west 0 ab;word west 0 a");
        Bench.type(x, "\2\1");
        x.row();
        Bench.due("spoken(1) of cells b, a", x.spoken(1), 1);
        Bench.type(x, "\1\2");
        x.row();
        Bench.due("spoken(1) of cells a, b", x.spoken(1), 0);
        Bench.type(x, "\2\1\0\1");
        x.row();
        Bench.due("spoken(1) of cells b, a, gap, a", x.spoken(1), 2);
    }

    public static void main(String[] args) {
        tapeIsEmptyThen();
        blanksAlone();
        allOfItOrNothing();
        fourHundredBytes();
        twentyFourClauses();
        tokens();
        clauseHeads();
        oneLetterAlone();
        strokeRows();
        meanings();
        wordLengths();
        sevenDigits();
        costs();
        toldAgain();
        allLetters();
        firstToken();
        fullTongue();
        latestFault();
        lettersAsked();
        wordsAsked();
        eightWords();
        firstLetterOrGap();
        mirrorEdges();
        readAtTheEnds();
        wordsAndNothingElse();
        westWords();
        Bench.finish(9, 15);
    }
}
