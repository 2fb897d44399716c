/** For each promise of the document: ordinary inputs, the edges it names, wrong inputs. */
public final class PromiseTests {
    private static final long TRILLION = 1_000_000_000_000L;
    private static int wrong = 0;
    private static int asked = 0;

    private static void due(int promise, String call, long got, long want) {
        asked++;
        if (got != want) {
            wrong++;
            System.out.println("promise " + promise + ": " + call + " answered " + got + ", due is " + want);
        }
    }

    private static void type(TwoWayWall x, String text) {
        Bench.type(x, text);
    }

    private static TwoWayWall told(String text) {
        TwoWayWall x = new TwoWayWall();
        type(x, text);
        if (x.tables() < 0) {
            wrong++;
            System.out.println("can't be: " + text);
        }
        return x;
    }

    private static void faultAt(String text, int place) {
        TwoWayWall x = new TwoWayWall();
        faultAt(x, text, place);
        due(9, "count(1) behind '" + text + "'", x.count(1) + x.count(2) + x.count(3) + x.count(4), 0);
    }

    private static void faultAt(TwoWayWall x, String text, int place) {
        type(x, text);
        due(9, "tables() of '" + text + "'", x.tables(), -6);
        due(10, "fault() of '" + text + "'", x.fault(), place);
        due(9, "count(10) behind '" + text + "'", x.count(10), 0);
    }

    private static void clauses(String text, int many) {
        TwoWayWall x = new TwoWayWall();
        type(x, text);
        due(9, "tables() of '" + text + "'", x.tables(), many);
        due(10, "fault() of '" + text + "'", x.fault(), -1);
        due(9, "count(10) behind '" + text + "'", x.count(10), 0);
    }

    private static void aNewObject() {
        TwoWayWall x = new TwoWayWall();
        due(1, "NONE", TwoWayWall.NONE, -1);
        for (int what = -2; what < 31; what++) {
            int want = what == 0 ? 8 : what >= 1 && what <= 14 ? 0 : what >= 15 && what <= 21 ? what - 14
                : what >= 22 && what <= 28 ? 1 : -1;
            due(1, "count(" + what + ")", x.count(what), want);
        }
        for (int cell = 0; cell < 8; cell++) {
            due(1, "of", x.of(cell), 0);
            due(1, "read", x.read(0, cell), -1);
            due(1, "lost", x.lost(cell, 0), 0);
        }
        due(1, "letter", x.letter(0, 0, 0), -1);
        due(1, "word", x.word(1, 0, 0), -1);
        due(1, "spoken", x.spoken(0), 0);
        due(1, "pair", x.pair(-1, -1, 0), 128);
        due(1, "near", x.near(0), 0);
        due(1, "may", x.may(), 0);
        due(1, "tells", x.tells(), TRILLION);
        due(1, "first", x.first(7), 0);
        due(1, "lengths", x.lengths(-1), 16);
        due(1, "fault", x.fault(), -1);
        due(1, "spilt", x.spilt(), 0);
        due(1, "status", x.status(), 0);
        due(1, "back", x.back(0), -2);
    }

    private static void sizes() {
        TwoWayWall x = new TwoWayWall();
        due(2, "size(0)", x.size(0), -1);
        due(2, "size(17)", x.size(17), -1);
        due(2, "size(-5)", x.size(-5), -1);
        due(2, "count(0)", x.count(0), 8);
        due(2, "size(16)", x.size(16), 8);
        x.paint(15, 9);
        x.paint(0, 4);
        x.lost(15, 3);
        x.lost(0, 2);
        due(2, "yard", x.yard(15, 15, 0, 0, 7), 0);
        due(2, "size(1)", x.size(1), 16);
        due(2, "of(1)", x.of(1), -1);
        due(2, "lost(1)", x.lost(1, 0), -1);
        due(2, "letting(1)", x.letting(1), 7);
        due(2, "size(16)", x.size(16), 1);
        due(2, "of(15)", x.of(15), 0);
        due(2, "of(0)", x.of(0), 4);
        due(2, "lost(15)", x.lost(15, 0), 0);
        due(2, "lost(0)", x.lost(0, 0), 2);
    }

    private static void paintAndOf() {
        TwoWayWall x = new TwoWayWall();
        due(3, "paint(7, 127)", x.paint(7, 127), 0);
        due(3, "paint(7, 0)", x.paint(7, 0), 127);
        due(3, "paint(8, 0)", x.paint(8, 0), -1);
        due(3, "paint(-1, 0)", x.paint(-1, 0), -1);
        due(3, "paint(0, 128)", x.paint(0, 128), -1);
        due(3, "paint(0, -1)", x.paint(0, -1), -1);
        due(3, "paint(0, 5)", x.paint(0, 5), 0);
        due(4, "of(0)", x.of(0), 5);
        due(4, "of(7)", x.of(7), 0);
        due(4, "of(8)", x.of(8), -1);
        due(4, "of(-1)", x.of(-1), -1);
        due(4, "of(min)", x.of(Integer.MIN_VALUE), -1);
    }

    private static void tape() {
        TwoWayWall x = new TwoWayWall();
        for (int i = 1; i <= 20; i++) {
            due(5, "feed", x.feed(1, 2, 3, 4, 5), 20 * i);
        }
        due(5, "feed", x.feed(1, 2, 3, 4, 5), -1);
        due(5, "count(10)", x.count(10), 400);
        due(6, "end(401)", x.end(401), -1);
        due(6, "end(-1)", x.end(-1), -1);
        due(6, "end(400)", x.end(400), 400);
        due(6, "end(381)", x.end(381), 381);
        due(5, "feed", x.feed(0, 0, 0, 0, 0), -1);
        due(6, "end(380)", x.end(380), 380);
        due(5, "feed", x.feed(0, 0, 0, 0, 0), 400);
        due(6, "end(0)", x.end(0), 0);
        due(6, "end(1)", x.end(1), -1);
        due(41, "status", x.status(), 0);
        due(40, "count(11)", x.count(11), 0);
        due(5, "feed", x.feed(0x01020304, 0x05060708, 0x7f000000, 0, 0xffffffff), 20);
        due(7, "row", x.row(), 16);
        due(5, "of(0)", x.of(0), 1);
        due(5, "of(3)", x.of(3), 4);
        due(5, "of(4)", x.of(4), 5);
        due(5, "of(8)", x.of(8), 127);
        due(5, "of(9)", x.of(9), 0);
    }

    private static void rows() {
        TwoWayWall x = new TwoWayWall();
        due(7, "row", x.row(), -6);
        due(41, "status", x.status(), -6);
        x.paint(0, 3);
        x.paint(1, 5);
        x.lost(1, 6);
        x.lost(5, 6);
        type(x, "\u0080\u0007\u00ff");
        due(7, "row", x.row(), 3);
        due(41, "status", x.status(), 0);
        due(7, "of(0)", x.of(0), 3);
        due(7, "of(1)", x.of(1), 7);
        due(7, "of(2)", x.of(2), 0);
        due(7, "of(3)", x.of(3), -1);
        due(7, "count(10)", x.count(10), 0);
        due(8, "spilt", x.spilt(), 0);
        due(7, "lost(1)", x.lost(1, 6), 6);
        x.size(8);
        due(7, "lost(5)", x.lost(5, 0), 0);
        type(x, "aaaaaaaaaaaaaaaaaaa");
        due(7, "row", x.row(), 16);
        due(8, "spilt", x.spilt(), 3);
        due(7, "of(15)", x.of(15), 'a');
        due(7, "row", x.row(), -6);
        due(8, "spilt", x.spilt(), 3);
        type(x, "aaaaaaaaaaaaaaaa");
        due(7, "row", x.row(), 16);
        due(8, "spilt", x.spilt(), 0);
        type(x, "a");
        due(7, "row", x.row(), 1);
    }

    private static void tableTexts() {
        clauses("east a 1", 1);
        clauses("  east   a1not7  ", 1);
        clauses("west z 7654321", 1);
        clauses("east a 123 not 4567;drop east a;drop west q;cost 7 99;cost 1 0;mirror 7654321", 6);
        clauses("word west 7 abcdef;word east0z", 2);
        clauses("cost 007 0000000000000000000099", 1);
        clauses("drop east a;".repeat(23) + "drop east a", 24);
        faultAt("", 0);
        faultAt("   ", 3);
        faultAt("drop east a;".repeat(24) + "  drop east a", 290);
        faultAt("drop east a;".repeat(24) + " ?", 289);
        faultAt("drop east a;".repeat(24) + "  ", 290);
        faultAt("drop east a;".repeat(23) + "drop east a drop east a", 288);
        faultAt(";", 0);
        faultAt("east a 1;;", 9);
        faultAt("east a 1; ", 10);
        faultAt("east a 1 2", 9);
        faultAt("east a 1 no 2", 9);
        faultAt("east a 1 not", 12);
        faultAt("east a 1 not ;", 13);
        faultAt("east a 1 not 2 not 3", 15);
        faultAt("east a 12 not 31", 14);
        faultAt("east a 1 not 33", 13);
        faultAt("east a 0", 7);
        faultAt("east a 19", 7);
        faultAt("east A 1", 5);
        faultAt("East a 1", 0);
        faultAt("east\ta 1", 4);
        faultAt("easta 1", 0);
        faultAt("east 1 1", 5);
        faultAt("1east a 1", 0);
        faultAt("word a 1 b", 5);
        faultAt("word east a b", 10);
        faultAt("word east 10 b", 10);
        faultAt("word east 1 2", 12);
        faultAt("word east 1", 11);
        faultAt("word east 1 ab cd", 15);
        faultAt("mirror 12345678", 7);
        faultAt("mirror 1234560", 7);
        faultAt("mirror abcdefg", 7);
        faultAt("mirror", 6);
        faultAt("mirror 1234567 1", 15);
        faultAt("cost 0 1", 5);
        faultAt("cost 11 1", 5);
        faultAt("cost a 1", 5);
        faultAt("cost 1 a", 7);
        faultAt("cost 1 100", 7);
        faultAt("word east 8 b", 10);
        faultAt("word east 1 abcdefg", 12);
        faultAt("cost 1 4294967296", 7);
        faultAt("cost 1 1,", 8);
        faultAt("drop east", 9);
        faultAt("drop east ab", 10);
        faultAt("drop drop a", 5);
        faultAt("east a 1;west b 2;word east 1 ab;south", 33);
        faultAt("\u00e9", 0);
        faultAt("word east 0 a;".repeat(9), 112);
    }

    /** West is full: a "word" of it is the first fault, whatever stands behind it in its clause. */
    private static void wordsWithoutRoom(TwoWayWall x) {
        faultAt(x, "word west 8 a", 0);
        faultAt(x, "word west", 0);
        faultAt(x, "  word west;", 2);
        faultAt(x, "word west 1 abcdefg", 0);
        faultAt(x, "word west word west", 0);
        faultAt(x, "cost 1 2;word west 1 ?", 9);
        faultAt(x, "cost 1 2,word west 1 a", 8);
        faultAt(x, "word east 8 a;word west 1 a", 10);
        faultAt(x, "word east 1 a;word west 1 a", 14);
        faultAt(x, "word south 1 a", 5);
        faultAt(x, "word", 4);
        faultAt(x, "cost 1 2;".repeat(23) + "word west", 207);
        faultAt(x, "cost 1 2;".repeat(24) + "word west 1 a", 216);
        due(12, "count(3)", x.count(3), 0);
        due(12, "count(4)", x.count(4), 8);
    }

    private static void tablesTogether() {
        TwoWayWall x = told("word west 3 ab;word west 3 ab;word west 1 c;word west 2 d");
        due(12, "count(4)", x.count(4), 4);
        type(x, "word west 1 e;word west 1 f;word east 1 a;word west 1 g;word west 1 h;word west 1 i;east x 1");
        due(9, "tables", x.tables(), -6);
        due(10, "fault", x.fault(), 70);
        due(41, "status", x.status(), -6);
        due(9, "count(4)", x.count(4), 4);
        due(9, "count(3)", x.count(3), 0);
        type(x, "word west 1 e;word west 1 f;word west 1 g;word west 1 h");
        due(9, "tables", x.tables(), 4);
        due(10, "fault", x.fault(), -1);
        due(12, "count(4)", x.count(4), 8);
        due(12, "word(1, 7, 2)", x.word(1, 7, 2), 7);
        type(x, "word west 1 h;?");
        due(9, "tables", x.tables(), -6);
        due(10, "fault", x.fault(), 0);
        type(x, "east a 1;word west 1 h");
        due(9, "tables", x.tables(), -6);
        due(10, "fault", x.fault(), 9);
        due(9, "letter", x.letter(0, 0, 0), -1);
        wordsWithoutRoom(x);
        type(x, "east a 1 not 2;east a 3;cost 2 5;cost 2 6;mirror 2345671");
        due(9, "tables", x.tables(), 5);
        due(11, "letter(0, 0, 0)", x.letter(0, 0, 0), 4);
        due(11, "letter(0, 0, 1)", x.letter(0, 0, 1), 0);
        due(40, "count(23)", x.count(23), 6);
        due(40, "count(15)", x.count(15), 2);
        due(40, "count(21)", x.count(21), 1);
        type(x, "drop east a;east b 1");
        due(9, "tables", x.tables(), 2);
        due(11, "letter(0, 0, 0)", x.letter(0, 0, 0), -1);
        due(11, "letter(0, 1, 0)", x.letter(0, 1, 0), 1);
        due(40, "count(1)", x.count(1), 1);
    }

    private static void lettersAndWords() {
        TwoWayWall x = told("east a 17 not 2;west z 246;word east 5 abc;word west 7 zzzzzz");
        due(11, "letter(0, 0, 0)", x.letter(0, 0, 0), 65);
        due(11, "letter(0, 0, 1)", x.letter(0, 0, 1), 2);
        due(11, "letter(0, 0, 2)", x.letter(0, 0, 2), -1);
        due(11, "letter(0, 0, -1)", x.letter(0, 0, -1), -1);
        due(11, "letter(1, 25, 0)", x.letter(1, 25, 0), 42);
        due(11, "letter(1, 25, 1)", x.letter(1, 25, 1), 0);
        due(11, "letter(1, 0, 0)", x.letter(1, 0, 0), -1);
        due(11, "letter(2, 0, 0)", x.letter(2, 0, 0), -1);
        due(11, "letter(-1, 0, 0)", x.letter(-1, 0, 0), -1);
        due(11, "letter(0, 26, 0)", x.letter(0, 26, 0), -1);
        due(11, "letter(0, -1, 0)", x.letter(0, -1, 0), -1);
        due(12, "word(0, 0, 0)", x.word(0, 0, 0), 5);
        due(12, "word(0, 0, 1)", x.word(0, 0, 1), 3);
        due(12, "word(0, 0, 2)", x.word(0, 0, 2), 0);
        due(12, "word(0, 0, 4)", x.word(0, 0, 4), 2);
        due(12, "word(0, 0, 5)", x.word(0, 0, 5), -1);
        due(12, "word(1, 0, 7)", x.word(1, 0, 7), 25);
        due(12, "word(1, 0, 8)", x.word(1, 0, 8), -1);
        due(12, "word(1, 0, -1)", x.word(1, 0, -1), -1);
        due(12, "word(1, 1, 0)", x.word(1, 1, 0), -1);
        due(12, "word(1, -1, 0)", x.word(1, -1, 0), -1);
        due(12, "word(2, 0, 0)", x.word(2, 0, 0), -1);
        due(12, "word(1, 0, max)", x.word(1, 0, Integer.MAX_VALUE), -1);
        due(12, "word(1, 0, min)", x.word(1, 0, Integer.MIN_VALUE), -1);
    }

    private static void reading() {
        TwoWayWall x = told("east b 1;east a 12 not 3;west c 1;mirror 2345671;word east 0 ab;word east 1 b;word west 2 c");
        due(13, "reads(0, 1)", x.reads(0, 1), 1);
        due(13, "reads(0, 3)", x.reads(0, 3), 0);
        due(13, "reads(0, 7)", x.reads(0, 7), 1);
        due(13, "reads(0, 2)", x.reads(0, 2), -1);
        due(13, "reads(1, 1)", x.reads(1, 1), -1);
        due(13, "reads(1, 64)", x.reads(1, 64), 2);
        due(13, "reads(1, 128)", x.reads(1, 128), -1);
        due(13, "reads(1, -1)", x.reads(1, -1), -1);
        due(13, "reads(2, 64)", x.reads(2, 64), -1);
        x.size(3);
        x.paint(0, 3);
        x.paint(1, 1);
        x.paint(2, 64);
        due(14, "read(0, 0)", x.read(0, 0), 0);
        due(14, "read(0, 1)", x.read(0, 1), 1);
        due(14, "read(0, 2)", x.read(0, 2), -1);
        due(14, "read(1, 0)", x.read(1, 0), 2);
        due(14, "read(1, 1)", x.read(1, 1), -1);
        due(14, "read(0, 3)", x.read(0, 3), -1);
        due(14, "read(0, -1)", x.read(0, -1), -1);
        due(14, "read(2, 0)", x.read(2, 0), -1);
        due(15, "spoken(0)", x.spoken(0), 0);
        due(15, "spoken(1)", x.spoken(1), 0);
        due(15, "spoken(2)", x.spoken(2), -1);
        due(15, "spoken(-1)", x.spoken(-1), -1);
        x.size(2);
        due(15, "spoken(0)", x.spoken(0), 1);
        x.size(4);
        x.paint(3, 1);
        due(15, "spoken(0)", x.spoken(0), 2);
        x.paint(3, 3);
        due(15, "spoken(0)", x.spoken(0), 0);
        x.size(5);
        x.paint(4, 65);
        due(15, "spoken(0)", x.spoken(0), 2);
        due(15, "spoken(1)", x.spoken(1), 0);
        x.paint(0, 67);
        due(15, "spoken(1)", x.spoken(1), 0);
        x.paint(2, 64);
        due(15, "spoken(1)", x.spoken(1), 3);
        x.paint(1, 0);
        due(15, "spoken(0)", x.spoken(0), 0);
        x.size(1);
        x.paint(0, 1);
        due(15, "spoken(0)", x.spoken(0), 1);
    }

    private static void together() {
        TwoWayWall x = told("east a 1;east b 2;west a 3 not 1;west c 12;cost 4 0;cost 5 0");
        due(16, "pair(0, 0, 0)", x.pair(0, 0, 0), 0);
        due(16, "pair(0, 0, 1)", x.pair(0, 0, 1), -1);
        due(16, "pair(1, 0, 0)", x.pair(1, 0, 0), 16);
        due(16, "pair(1, 0, 1)", x.pair(1, 0, 1), 6);
        due(16, "pair(0, 2, 0)", x.pair(0, 2, 0), 32);
        due(16, "pair(0, 2, 1)", x.pair(0, 2, 1), 3);
        due(16, "pair(-1, -1, 1)", x.pair(-1, -1, 1), 0);
        due(16, "pair(-1, 0, 0)", x.pair(-1, 0, 0), 16);
        due(16, "pair(-1, 0, 1)", x.pair(-1, 0, 1), 4);
        due(16, "pair(5, 0, 0)", x.pair(5, 0, 0), 0);
        due(16, "pair(5, 0, 1)", x.pair(5, 0, 1), -1);
        due(16, "pair(0, 2, 2)", x.pair(0, 2, 2), -1);
        due(16, "pair(0, 2, -1)", x.pair(0, 2, -1), -1);
        due(16, "pair(-2, 0, 0)", x.pair(-2, 0, 0), -1);
        due(16, "pair(0, 26, 0)", x.pair(0, 26, 0), -1);
        due(17, "partners(0)", x.partners(0), 1 << 26 | 4);
        due(17, "partners(1)", x.partners(1), 1 << 26 | 1);
        due(17, "partners(-1)", x.partners(-1), 1 << 26 | 1);
        due(17, "partners(9)", x.partners(9), 0);
        due(17, "partners(26)", x.partners(26), -1);
        due(17, "partners(-2)", x.partners(-2), -1);
        due(18, "pairs()", x.pairs(), 2);
        TwoWayWall y = told("east a 1;west a 7;cost 1 99;cost 7 99;cost 2 0;mirror 2345671");
        due(16, "pair(0, -1, 1)", y.pair(0, -1, 1), 1);
        due(16, "pair(0, 0, 1)", y.pair(0, 0, 1), 33);
        TwoWayWall z = told("east a 12;east b 1;east c 2;cost 1 5;cost 2 1");
        due(16, "pair(1, -1, 1)", z.pair(1, -1, 1), 1);
        due(16, "pair(2, -1, 1)", z.pair(2, -1, 1), 2);
    }

    private static void texts() {
        TwoWayWall x = told("east a 1;east b 2;west a 3 not 1;west c 12");
        due(19, "say(2, 0)", x.say(2, 0), -1);
        due(19, "say(0, -2)", x.say(0, -2), -1);
        for (int i = 1; i <= 16; i++) {
            due(19, "say(0, " + i + ")", x.say(0, i % 3 - 1), i);
        }
        due(19, "say(0, 0)", x.say(0, 0), -5);
        due(41, "status", x.status(), -5);
        due(19, "say(0, 26)", x.say(0, 26), -1);
        due(40, "count(5)", x.count(5), 16);
        due(21, "near(0)", x.near(0), -1);
        due(22, "nearAt(0)", x.nearAt(0), -1);
        due(20, "hush(2)", x.hush(2), -1);
        due(20, "hush(0)", x.hush(0), 16);
        due(20, "hush(0)", x.hush(0), 0);
        x.say(0, 1);
        x.say(0, 0);
        x.say(0, -1);
        x.say(1, -1);
        x.say(1, 0);
        x.say(1, 0);
        due(21, "near(0)", x.near(0), 1);
        due(21, "near(1)", x.near(1), 3);
        due(21, "near(2)", x.near(2), 16 * 96 * 16);
        due(22, "nearAt(0)", x.nearAt(0), 6);
        due(22, "nearAt(1)", x.nearAt(1), 1);
        due(22, "nearAt(2)", x.nearAt(2), 0);
        due(22, "nearAt(3)", x.nearAt(3), -1);
        due(22, "nearAt(-1)", x.nearAt(-1), -1);
        due(21, "near(3)", x.near(3), -1);
        due(21, "near(-1)", x.near(-1), -1);
        x.hush(0);
        x.hush(1);
        for (int i = 0; i < 16; i++) {
            x.say(0, 25);
            x.say(1, 25);
        }
        due(21, "near(0)", x.near(0), 32);
        due(21, "near(1)", x.near(1), 0);
        due(21, "near(2)", x.near(2), 1_000_000_000);
        due(22, "nearAt(15)", x.nearAt(15), 0);
    }

    /** Of alike cost the lowest set, though its pair of letters is met later. */
    private static void nearestIsLowest() {
        TwoWayWall x = told("east a 1;east b 2;west c 3;cost 1 9;cost 2 3;cost 4 3;cost 3 9;cost 5 0");
        x.say(0, 2);
        x.say(1, 2);
        due(21, "near(0)", x.near(0), 1);
        due(21, "near(1)", x.near(1), 9);
        due(22, "nearAt(0)", x.nearAt(0), 4);
        TwoWayWall y = told("east d 5;east a 1;west a 5 not 1;west d 1;cost 1 5;cost 5 5");
        y.say(0, 25);
        y.say(1, 25);
        due(21, "near(1)", y.near(1), 0);
        y.hush(0);
        y.say(0, 3);
        due(22, "nearAt(0)", y.nearAt(0), 16);
        TwoWayWall z = told("west a 4 not 123;west w 4;east f 2 not 1;cost 1 5");
        z.say(0, 25);
        z.say(1, 22);
        due(21, "near(0)", z.near(0), 1);
        due(21, "near(1)", z.near(1), 2);
        due(22, "nearAt(0)", z.nearAt(0), 10);
    }

    private static void stories() {
        TwoWayWall x = told("east a 1;east b 2;west a 3;west b 4;word east 0 ab;word east 0 ba;word east 0 ab;"
            + "word east 1 a;word west 2 a;word west 3 bb;cost 1 4;cost 3 7");
        due(23, "mean(2, 0)", x.mean(2, 0), -1);
        due(23, "mean(0, 8)", x.mean(0, 8), -1);
        due(23, "mean(0, -1)", x.mean(0, -1), -1);
        for (int i = 1; i <= 4; i++) {
            due(23, "mean(1, 7)", x.mean(1, 7), i);
        }
        due(23, "mean(1, 7)", x.mean(1, 7), -5);
        due(23, "mean(1, 9)", x.mean(1, 9), -1);
        due(25, "tells", x.tells(), 0);
        due(26, "price", x.price(), -1);
        due(27, "first", x.first(0), -1);
        due(28, "lengths(-1)", x.lengths(-1), 0);
        due(28, "lengths(0)", x.lengths(0), -1);
        due(24, "forget(1)", x.forget(1), 4);
        due(24, "forget(1)", x.forget(1), 0);
        due(24, "forget(2)", x.forget(2), -1);
        x.mean(0, 0);
        x.mean(1, 3);
        x.size(2);
        // West's b is stroke 4 without 3; East's a stroke 1, b stroke 2 without 1.
        due(25, "tells", x.tells(), 2 * 16 * 8);
        due(26, "price", x.price(), 7);
        due(27, "first(0)", x.first(0), 9);
        due(27, "first(1)", x.first(1), 10);
        due(27, "first(2)", x.first(2), -1);
        due(27, "first(-1)", x.first(-1), -1);
        due(28, "lengths(-1)", x.lengths(-1), 1);
        due(28, "lengths(0)", x.lengths(0), 2);
        due(28, "lengths(1)", x.lengths(1), -1);
        due(28, "lengths(-2)", x.lengths(-2), -1);
        x.mean(0, 1);
        due(25, "tells", x.tells(), 0);
        x.size(4);
        due(25, "tells", x.tells(), 0);
        x.mean(1, 2);
        due(25, "tells", x.tells(), tellsByHand());
        due(27, "first", x.first(0), 5);
        x.forget(0);
        x.forget(1);
        x.mean(1, 2);
        due(28, "lengths(0)", x.lengths(0), 1);
        x.size(1);
        due(25, "tells", x.tells(), 16);
        due(26, "price", x.price(), 7);
        due(27, "first(0)", x.first(0), 4);
        x.size(2);
        due(25, "tells", x.tells(), 0);
        long power = 1;
        x.forget(1);
        for (int n = 1; n <= 16; n++) {
            power = Math.min(TRILLION, power * 8);
            x.size(n);
            due(25, "tells of gaps", x.tells(), power);
        }
        due(26, "price of gaps", x.price(), 0);
        due(28, "lengths of gaps", x.lengths(15), 16);
    }

    /** East: ab or ba, gap, a. West, from the last cell: bb, gap, a: so a, gap, b, b from cell 0. */
    private static long tellsByHand() {
        long sum = 0;
        String[] east = {"ab.a", "ba.a"};
        for (String row : east) {
            long product = 1;
            for (int i = 0; i < 4; i++) {
                product *= waysByHand(row.charAt(i), "a.bb".charAt(i));
            }
            sum += product;
        }
        return sum;
    }

    private static int waysByHand(char east, char west) {
        int ways = 0;
        for (int set = 0; set < 128; set++) {
            char e = (set & 1) != 0 ? 'a' : (set & 2) != 0 ? 'b' : '.';
            char w = (set & 4) != 0 ? 'a' : (set & 8) != 0 ? 'b' : '.';
            if (e == east && w == west) {
                ways++;
            }
        }
        return ways;
    }

    /** Which of alike walls is first may be told by the last cells alone. */
    private static void firstByItsEnd(String words) {
        TwoWayWall x = told("east a 1;east b 2;" + words);
        x.mean(0, 0);
        x.mean(0, 1);
        x.size(10);
        int[] due = {1, 1, 1, 1, 1, 1, 0, 1, 1, 2};
        due(26, "price", x.price(), 9);
        for (int i = 0; i < 10; i++) {
            due(27, "first(" + i + ")", x.first(i), due[i]);
        }
    }

    private static void eightWords() {
        TwoWayWall x = told("east a 1;east b 2;east c 3;east d 4;east e 5;east f 6;east g 7;east h 17");
        type(x, "word east 0 a;word east 0 b;word east 0 c;word east 0 d;word east 0 e;word east 0 f;word east 0 g;"
            + "word east 0 ga;word west 0 a;west a 7");
        x.tables();
        x.mean(0, 0);
        x.size(1);
        due(25, "tells", x.tells(), 63);
        x.lost(0, 127);
        due(30, "may", x.may(), 64);
        x.mean(1, 0);
        due(25, "tells", x.tells(), 64);
        TwoWayWall y = told("east a 1234;east b 123;east c 124;east d 134;east e 234;east f 12;east g 13;east h 14");
        type(y, "word east 2 a;word east 2 b;word east 2 c;word east 2 d;word east 2 e;word east 2 f;word east 2 g;"
            + "word east 2 h");
        y.tables();
        y.mean(0, 2);
        y.size(1);
        due(25, "tells", y.tells(), 64);
    }

    private static void lostStrokes() {
        TwoWayWall x = told("east a 1;west a 1;word east 0 a;word west 0 a");
        due(29, "lost(8, 0)", x.lost(8, 0), -1);
        due(29, "lost(-1, 0)", x.lost(-1, 0), -1);
        due(29, "lost(0, 128)", x.lost(0, 128), -1);
        due(29, "lost(0, -1)", x.lost(0, -1), -1);
        due(29, "lost(0, 127)", x.lost(0, 127), 0);
        due(29, "lost(0, 0)", x.lost(0, 0), 127);
        due(30, "may", x.may(), 0);
        due(31, "sure", x.sure(0, 0), -1);
        due(32, "often", x.often(0, 1), 0);
        x.size(15);
        for (int cell = 0; cell < 15; cell++) {
            x.lost(cell, 127);
        }
        due(30, "may", x.may(), TRILLION);
        due(32, "often(0, 1)", x.often(0, 1), TRILLION);
        due(32, "often(1, 1)", x.often(1, 1), 0);
        due(32, "often(1, 7)", x.often(1, 7), TRILLION);
        due(31, "sure(0, 0)", x.sure(0, 0), 1);
        due(31, "sure(0, 1)", x.sure(0, 1), 0);
        due(31, "sure(0, 2)", x.sure(0, 2), 126);
        due(31, "sure(1, 0)", x.sure(1, 0), 0);
        due(31, "sure(1, 1)", x.sure(1, 1), 1);
        due(31, "sure(1, 2)", x.sure(1, 2), 126);
        due(31, "sure(0, 3)", x.sure(0, 3), -1);
        due(31, "sure(0, -1)", x.sure(0, -1), -1);
        due(31, "sure(15, 0)", x.sure(15, 0), -1);
        due(31, "sure(-1, 0)", x.sure(-1, 0), -1);
        due(32, "often(15, 1)", x.often(15, 1), -1);
        due(32, "often(-1, 1)", x.often(-1, 1), -1);
        due(32, "often(0, 0)", x.often(0, 0), -1);
        due(32, "often(0, 8)", x.often(0, 8), -1);
        x.size(16);
        due(30, "may", x.may(), 0);
        x.size(3);
        x.lost(1, 2);
        x.lost(2, 0);
        due(30, "may", x.may(), 0);
        x.paint(2, 65);
        due(30, "may", x.may(), 128);
        due(31, "sure(2, 0)", x.sure(2, 0), 0);
        due(31, "sure(1, 2)", x.sure(1, 2), 2);
        due(32, "often(2, 7)", x.often(2, 7), 128);
        due(32, "often(0, 7)", x.often(0, 7), 64);
        due(29, "of(0)", x.of(0), 0);
    }

    private static void yards() {
        TwoWayWall x = new TwoWayWall();
        due(36, "best(0)", x.best(0), 0);
        due(36, "best(1)", x.best(1), 0);
        due(36, "best(2)", x.best(2), 1);
        due(36, "best(3)", x.best(3), -1);
        due(36, "best(-1)", x.best(-1), -1);
        due(33, "yard", x.yard(-1, 0, 0, 0, 0), -1);
        due(33, "yard", x.yard(0, 8, 0, 0, 0), -1);
        due(33, "yard", x.yard(1, 0, 0, 0, 0), -1);
        due(33, "yard", x.yard(0, 0, -1, 0, 0), -1);
        due(33, "yard", x.yard(0, 0, 0, 52, 0), -1);
        due(33, "yard", x.yard(0, 0, 2, 1, 0), -1);
        due(33, "yard", x.yard(0, 0, 0, 0, -1), -1);
        due(33, "yard", x.yard(0, 0, 0, 0, 1000), -1);
        due(40, "count(11)", x.count(11), 8);
        due(33, "yard", x.yard(0, 7, 0, 51, 999), 0);
        for (int i = 1; i < 10; i++) {
            due(33, "yard", x.yard(i % 8, i % 8, i, i, 111), i);
        }
        due(33, "yard", x.yard(0, 0, 0, 0, 0), -5);
        due(33, "yard", x.yard(0, 9, 0, 0, 0), -1);
        due(35, "letting(1)", x.letting(1), 999);
        due(35, "letting(3)", x.letting(3), -1);
        due(35, "letting(1022)", x.letting(1022), 999);
        due(35, "letting(1024)", x.letting(1024), -1);
        due(35, "letting(-1)", x.letting(-1), -1);
        due(35, "letting(0)", x.letting(0), 0);
        due(36, "best(0)", x.best(0), 999);
        due(36, "best(1)", x.best(1), 1);
        due(36, "best(2)", x.best(2), 2);
        due(34, "drop(10)", x.drop(10), -2);
        due(34, "drop(-1)", x.drop(-1), -2);
        due(34, "drop(9)", x.drop(9), 9);
        due(34, "drop(0)", x.drop(0), 8);
        due(35, "letting(256)", x.letting(256), -1);
        due(36, "best(0)", x.best(0), 888);
        due(36, "best(1)", x.best(1), 255);
        x.yard(0, 1, 20, 30, 0);
        due(36, "best(1)", x.best(1), 255);
        due(36, "best(2)", x.best(2), 2);
        TwoWayWall y = new TwoWayWall();
        y.yard(0, 3, 0, 5, 10);
        y.yard(3, 5, 5, 9, 10);
        y.yard(4, 5, 0, 4, 10);
        y.yard(3, 3, 6, 6, 10);
        due(35, "letting(3)", y.letting(3), -1);
        due(35, "letting(5)", y.letting(5), 20);
        due(35, "letting(6)", y.letting(6), 20);
        due(35, "letting(9)", y.letting(9), 20);
        due(35, "letting(13)", y.letting(13), 30);
        due(36, "best(1)", y.best(1), 13);
        due(34, "drop(1)", y.drop(1), 3);
        due(35, "letting(7)", y.letting(7), 30);
    }

    private static void rain() {
        TwoWayWall x = new TwoWayWall();
        due(37, "rain", x.rain(-1, 0), -1);
        due(37, "rain", x.rain(1_000_001, 0), -1);
        due(37, "rain", x.rain(0, -1), -1);
        due(37, "rain", x.rain(0, 101), -1);
        due(37, "rain", x.rain(1_000_000, 100), 0);
        x.size(16);
        for (int cell = 0; cell < 16; cell++) {
            x.paint(cell, 127 - cell);
        }
        x.lost(0, 127);
        long s = 1_000_000;
        int off = 0;
        int[] left = new int[16];
        for (int cell = 0; cell < 16; cell++) {
            left[cell] = 127 - cell;
            for (int bit = 1; bit < 128; bit *= 2) {
                if ((left[cell] & bit) != 0) {
                    s = (s * 1103 + 12345) % 1000003;
                    if (s % 100 < 37) {
                        left[cell] -= bit;
                        off++;
                    }
                }
            }
        }
        due(37, "rain", x.rain(1_000_000, 37), off);
        for (int cell = 0; cell < 16; cell++) {
            due(37, "of(" + cell + ")", x.of(cell), left[cell]);
        }
        due(37, "lost(0)", x.lost(0, 0), 127);
    }

    private static void imagesAndCounts() {
        TwoWayWall x = told("east a 1;west b 2;word east 3 a;word west 4 b;mirror 2134567;cost 3 33");
        x.paint(0, 1);
        x.lost(1, 2);
        x.say(0, 0);
        x.say(1, -1);
        x.mean(0, 3);
        x.mean(1, 4);
        x.yard(0, 1, 2, 3, 4);
        due(38, "image(2)", x.image(2), -1);
        due(38, "image(-1)", x.image(-1), -1);
        due(39, "back(2)", x.back(2), -1);
        due(39, "back(-1)", x.back(-1), -1);
        due(39, "back(1)", x.back(1), -2);
        due(41, "status", x.status(), -2);
        due(38, "image(1)", x.image(1), 0);
        due(41, "status", x.status(), 0);
        type(x, "drop east a;drop west b;word east 3 a;word west 4 b;mirror 1234567;cost 3 1");
        x.tables();
        x.size(3);
        x.paint(0, 0);
        x.lost(1, 0);
        x.hush(0);
        x.hush(1);
        x.forget(0);
        x.forget(1);
        x.drop(0);
        x.image(0);
        type(x, "aaaaaaaaaaaaaaaaa");
        x.row();
        type(x, "foul");
        x.tables();
        type(x, "left");
        due(39, "back(1)", x.back(1), 0);
        due(41, "status", x.status(), 0);
        due(8, "spilt", x.spilt(), 1);
        due(10, "fault", x.fault(), 0);
        int[] due = {8, 1, 1, 1, 1, 1, 1, 1, 1, 1, 4, 4, 1, 0, 1, 2, 1, 3, 4, 5, 6, 7, 1, 1, 33, 1, 1, 1, 1};
        for (int what = 0; what < due.length; what++) {
            due(40, "count(" + what + ")", x.count(what), due[what]);
        }
        due(39, "of(0)", x.of(0), 1);
        due(39, "lost(1)", x.lost(1, 2), 2);
        due(39, "letter", x.letter(1, 1, 0), 2);
        due(39, "reads", x.reads(1, 1), 1);
        due(39, "word", x.word(0, 0, 0), 3);
        due(39, "letting", x.letting(1), 4);
        due(39, "near(1)", x.near(0), 1);
        x.size(1);
        due(39, "tells", x.tells(), 64);
        x.forget(0);
        due(39, "tells", x.tells(), 0);
        due(39, "back(0)", x.back(0), 0);
        due(39, "count(0)", x.count(0), 3);
        due(39, "count(3)", x.count(3), 2);
        due(39, "tells", x.tells(), 128L * 128 * 128);
        due(39, "back(1)", x.back(1), 0);
        due(39, "count(0)", x.count(0), 8);
        due(39, "count(7)", x.count(7), 1);
    }

    /** What came in the place of what an image keeps must give way again. */
    private static void imagesKeepWhatIsOverwritten() {
        TwoWayWall x = told("east a 1;west b 2;word east 3 a;word west 4 b");
        x.say(0, 0);
        x.say(1, 1);
        x.mean(0, 3);
        x.mean(1, 4);
        x.yard(0, 1, 2, 3, 4);
        x.yard(2, 3, 2, 3, 5);
        x.size(1);
        x.image(0);
        x.hush(0);
        x.say(0, 5);
        x.hush(1);
        x.say(1, 5);
        x.forget(0);
        x.mean(0, 5);
        x.forget(1);
        x.mean(1, 5);
        x.drop(0);
        x.yard(0, 0, 0, 0, 77);
        due(39, "near(0)", x.near(0), 2);
        due(39, "tells", x.tells(), 0);
        due(39, "letting(2)", x.letting(2), 77);
        due(39, "back(0)", x.back(0), 0);
        due(39, "near(0)", x.near(0), 0);
        due(39, "nearAt(0)", x.nearAt(0), 3);
        due(39, "tells", x.tells(), 32);
        due(39, "letting(1)", x.letting(1), 4);
        due(39, "letting(3)", x.letting(3), 9);
    }

    private static void status() {
        TwoWayWall x = new TwoWayWall();
        x.size(0);
        due(41, "status behind size", x.status(), -1);
        x.of(99);
        x.feed(0, 0, 0, 0, 0);
        x.end(500);
        x.near(9);
        x.letting(77);
        due(41, "status", x.status(), -1);
        x.hush(0);
        due(41, "status behind hush", x.status(), 0);
        x.hush(5);
        due(41, "status behind hush", x.status(), -1);
        x.forget(1);
        due(41, "status behind forget", x.status(), 0);
        x.drop(0);
        due(41, "status behind drop", x.status(), -2);
        x.rain(0, 0);
        due(41, "status behind rain", x.status(), 0);
        x.rain(0, 999);
        due(41, "status behind rain", x.status(), -1);
        x.lost(0, 0);
        due(41, "status behind lost", x.status(), 0);
        x.tables();
        due(41, "status behind tables", x.status(), -6);
        x.paint(0, 0);
        due(41, "status behind paint", x.status(), 0);
        due(40, "count(11)", x.count(11), 3);
        due(40, "count(12)", x.count(12), 1);
        due(40, "count(13)", x.count(13), 0);
        due(40, "count(14)", x.count(14), 1);
        due(40, "count(max)", x.count(Integer.MAX_VALUE), -1);
    }

    public static void main(String[] args) {
        aNewObject();
        sizes();
        paintAndOf();
        tape();
        rows();
        tableTexts();
        tablesTogether();
        lettersAndWords();
        reading();
        together();
        texts();
        nearestIsLowest();
        stories();
        firstByItsEnd("word east 0 aaaaaa;word east 1 aba;word east 1 aab");
        firstByItsEnd("word east 0 aaaaaa;word east 1 aab;word east 1 aba");
        eightWords();
        lostStrokes();
        yards();
        rain();
        imagesAndCounts();
        imagesKeepWhatIsOverwritten();
        status();
        System.out.println(asked + " answers, " + wrong + " of them not as due");
        if (wrong != 0) {
            System.exit(1);
        }
    }
}
