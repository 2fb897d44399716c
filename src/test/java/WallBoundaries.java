/** The boundary cases of a new object, the wall and the tape: promises 1 to 8. */
public final class WallBoundaries {
    private static void eightBareCells() {
        Bench.sentence(1, "Eight bare CELLS; no LETTERS, WORDS.");
        TwoWayWall x = new TwoWayWall();
        Bench.due("count(0)", x.count(0), 8);
        for (int cell = 0; cell < 8; cell++) {
            Bench.due("of(" + cell + ")", x.of(cell), 0);
        }
        Bench.due("of(8)", x.of(8), -1);
        for (int letter = 0; letter < 26; letter++) {
            Bench.due("letter(0, " + letter + ", 0)", x.letter(0, letter, 0), -1);
            Bench.due("letter(1, " + letter + ", 0)", x.letter(1, letter, 0), -1);
        }
        for (int what = 1; what <= 14; what++) {
            Bench.due("count(" + what + ")", x.count(what), 0);
        }
        Bench.due("word(0, 0, 0)", x.word(0, 0, 0), -1);
        Bench.due("word(1, 0, 0)", x.word(1, 0, 0), -1);
        for (int set = 0; set < 128; set++) {
            Bench.due("reads(0, " + set + ")", x.reads(0, set), -1);
            Bench.due("reads(1, " + set + ")", x.reads(1, set), -1);
        }
    }

    private static void emptyAtFirst() {
        Bench.sentence(1, "(bits; none at first)");
        TwoWayWall x = new TwoWayWall();
        for (int cell = 0; cell < 8; cell++) {
            Bench.due("lost(" + cell + ", 127)", x.lost(cell, 127), 0);
        }
        Bench.sentence(1, "(STROKE k is bit k - 1; none at first)");
        for (int k = 1; k <= 7; k++) {
            TwoWayWall y = Bench.told("east a " + k);
            for (int bit = 0; bit < 7; bit++) {
                Bench.due("reads(0, " + (1 << bit) + ") of stroke " + k, y.reads(0, 1 << bit), bit == k - 1 ? 0 : -1);
            }
        }
        Bench.sentence(1, "(1 .. 7, each once; as itself at first)");
        TwoWayWall z = new TwoWayWall();
        for (int k = 1; k <= 7; k++) {
            Bench.due("count(" + (14 + k) + ")", z.count(14 + k), k);
        }
        Bench.sentence(1, "COST of a STROKE: 0 .. 99 (1 at first)");
        for (int k = 1; k <= 7; k++) {
            Bench.due("count(" + (21 + k) + ")", z.count(21 + k), 1);
        }
    }

    private static void fiveHundredTwelveCalls() {
        Bench.sentence(1, "An object is used for at most 512 calls after it has been made");
        TwoWayWall x = new TwoWayWall();
        for (int i = 1; i < 512; i++) {
            Bench.due("paint", x.paint(7, i % 128), (i - 1) % 128);
        }
        Bench.due("of(7), the 512th call", x.of(7), 511 % 128);
    }

    private static void sizes() {
        Bench.sentence(2, "n 1 .. 16 (8 at first)");
        TwoWayWall x = new TwoWayWall();
        Bench.due("size(1)", x.size(1), 8);
        Bench.due("count(0)", x.count(0), 1);
        Bench.due("size(16)", x.size(16), 1);
        Bench.due("count(0)", x.count(0), 16);
        Bench.due("size(16)", x.size(16), 16);
        for (int n = 1; n <= 16; n++) {
            x.size(n);
            Bench.due("of(n - 1) of " + n, x.of(n - 1), 0);
            Bench.due("of(n) of " + n, x.of(n), -1);
            Bench.due("paint(n - 1) of " + n, x.paint(n - 1, 3), 0);
            Bench.due("paint(n) of " + n, x.paint(n, 3), -1);
        }
        Bench.sentence(2, "So many CELLS");
        for (int n : new int[] {0, 17, -1, -16, 256 + 8, Bench.LEAST, Bench.MOST}) {
            Bench.refuses("size(" + n + ")", y -> y.size(n), -1);
        }
    }

    private static void cellsBeyondGo() {
        Bench.sentence(2, "those beyond go, new ones are bare");
        TwoWayWall x = new TwoWayWall();
        x.size(16);
        for (int cell = 0; cell < 16; cell++) {
            x.paint(cell, 100 + cell);
        }
        x.size(5);
        Bench.due("of(4)", x.of(4), 104);
        Bench.due("of(5)", x.of(5), -1);
        x.size(16);
        for (int cell = 0; cell < 16; cell++) {
            Bench.due("of(" + cell + ")", x.of(cell), cell < 5 ? 100 + cell : 0);
        }
        Bench.sentence(2, "LOST alike");
        for (int cell = 0; cell < 16; cell++) {
            x.lost(cell, 100 + cell);
        }
        x.size(5);
        Bench.due("lost(5, 0)", x.lost(5, 0), -1);
        x.size(16);
        for (int cell = 0; cell < 16; cell++) {
            Bench.due("lost(" + cell + ", 0)", x.lost(cell, 0), cell < 5 ? 100 + cell : 0);
        }
    }

    private static void sizeToTheSameKeepsAll() {
        Bench.sentence(2, "how many there were");
        TwoWayWall x = new TwoWayWall();
        x.paint(7, 9);
        x.lost(7, 5);
        Bench.due("size(8)", x.size(8), 8);
        Bench.due("of(7)", x.of(7), 9);
        Bench.due("lost(7, 0)", x.lost(7, 0), 5);
    }

    private static void yardsStay() {
        Bench.sentence(2, "YARDS stay");
        TwoWayWall x = new TwoWayWall();
        x.size(16);
        x.yard(15, 15, 0, 51, 7);
        x.yard(0, 15, 0, 0, 9);
        x.size(1);
        Bench.due("count(9)", x.count(9), 2);
        Bench.due("letting(1)", x.letting(1), 7);
        Bench.due("letting(3), which meet in a cell that is gone", x.letting(3), -1);
        Bench.due("best(1)", x.best(1), 2);
    }

    private static void paints() {
        Bench.sentence(3, "STROKES of a CELL, as bits: what they were.");
        TwoWayWall x = new TwoWayWall();
        int[] sets = {0, 1, 64, 126, 127};
        int was = 0;
        for (int set : sets) {
            Bench.due("paint(0, " + set + ")", x.paint(0, set), was);
            Bench.due("of(0)", x.of(0), set);
            Bench.due("of(1)", x.of(1), 0);
            was = set;
        }
        Bench.due("paint(7, 127)", x.paint(7, 127), 0);
        Bench.due("of(7)", x.of(7), 127);
        for (int set : new int[] {-1, 128, 255, 256, Bench.LEAST, Bench.MOST}) {
            Bench.refuses("paint(1, " + set + ")", y -> y.paint(1, set), -1);
        }
        for (int cell : new int[] {-1, 4, 16, Bench.LEAST, Bench.MOST}) {
            Bench.refuses("paint(" + cell + ", 1)", y -> y.paint(cell, 1), -1);
        }
        Bench.refuses("paint(-1, -1)", y -> y.paint(-1, -1), -1);
        Bench.refuses(y -> y.size(16), "paint(16, 1)", y -> y.paint(16, 1), -1);
        Bench.refuses(y -> y.size(1), "paint(1, 1)", y -> y.paint(1, 1), -1);
    }

    private static void cellsThatAreNot() {
        Bench.sentence(4, "STROKES of a CELL. NONE.");
        Bench.asks("of(3)", x -> x.of(3), 6);
        for (int cell : new int[] {-1, 4, 15, 16, Bench.LEAST, Bench.MOST}) {
            Bench.asks("of(" + cell + ")", x -> x.of(cell), -1);
        }
        Bench.asks(x -> x.size(16), "of(15)", x -> x.of(15), 0);
        Bench.asks(x -> x.size(16), "of(16)", x -> x.of(16), -1);
        Bench.asks(x -> x.size(1), "of(0)", x -> x.of(0), 5);
        Bench.asks(x -> x.size(1), "of(1)", x -> x.of(1), -1);
    }

    private static void fed() {
        Bench.sentence(5, "Twenty bytes come behind the TAPE, four of each number, the highest first: how many it has.");
        TwoWayWall x = new TwoWayWall();
        Bench.due("feed", x.feed(0x00010203, 0x04050607, 0x08090a0b, 0x0c0d0e0f, 0x7f7e7d7c), 20);
        Bench.due("row", x.row(), 16);
        for (int cell = 0; cell < 16; cell++) {
            Bench.due("of(" + cell + ")", x.of(cell), cell);
        }
        x.feed(0, 0, 0, 0, 0x7f7e7d7c);
        x.end(16);
        Bench.due("feed behind 16", x.feed(0x11223344, 0x55667701, 0, 0, 0), 36);
        Bench.due("row", x.row(), 16);
        Bench.due("of(15)", x.of(15), 0);
        Bench.due("spilt", x.spilt(), 20);
        x.feed(0, 0, 0, 0, 0x7f7e7d7c);
        x.end(1);
        x.feed(0x11223344, 0x55667701, 2, 3, 0x7f7e7d7c);
        x.end(16);
        x.row();
        int[] due = {0, 0x11, 0x22, 0x33, 0x44, 0x55, 0x66, 0x77, 1, 0, 0, 0, 2, 0, 0, 0};
        for (int cell = 0; cell < 16; cell++) {
            Bench.due("of(" + cell + ")", x.of(cell), due[cell]);
        }
        x.feed(0x7f7e7d7c, 0, 0, 0, 0);
        x.end(1);
        x.row();
        Bench.due("of(0)", x.of(0), 0x7f);
        x.feed(-1, Bench.LEAST, Bench.MOST, 0x80ff017f, -2);
        x.row();
        Bench.due("of(0), behind the byte 255", x.of(0), 0x7f);
        Bench.due("of(5), the second byte of the least number", x.of(5), 0);
        Bench.due("of(8), the first byte of the highest", x.of(8), 0x7f);
        Bench.due("of(14)", x.of(14), 1);
        Bench.due("of(15)", x.of(15), 0x7f);
    }

    private static void feedOf(TwoWayWall x, int times) {
        x.end(0);
        for (int i = 0; i < times; i++) {
            x.feed(i, i, i, i, i);
        }
    }

    private static void fullTape() {
        Bench.sentence(5, "NONE, if there would be more than 400.");
        TwoWayWall x = new TwoWayWall();
        for (int i = 1; i <= 20; i++) {
            Bench.due("feed", x.feed(i, i, i, i, i), 20 * i);
        }
        Bench.due("count(10)", x.count(10), 400);
        Bench.due("feed behind 400", x.feed(0, 0, 0, 0, 0), -1);
        Bench.due("end(381)", x.end(381), 381);
        Bench.due("feed behind 381", x.feed(0, 0, 0, 0, 0), -1);
        Bench.due("count(10)", x.count(10), 381);
        Bench.due("end(380)", x.end(380), 380);
        Bench.due("feed behind 380", x.feed(0, 0, 0, 0, 0), 400);
        Bench.due("feed behind 400", x.feed(0, 0, 0, 0, 0), -1);
        Bench.asks(y -> feedOf(y, 20), "feed behind 400", y -> y.feed(1, 2, 3, 4, 5), -1);
        Bench.asks(y -> {
            feedOf(y, 20);
            y.end(381);
        }, "feed behind 381", y -> y.feed(1, 2, 3, 4, 5), -1);
    }

    private static void ended() {
        Bench.sentence(6, "The TAPE has its first n bytes alone: n.");
        TwoWayWall x = new TwoWayWall();
        Bench.due("end(0) of an empty tape", x.end(0), 0);
        x.feed(0x01020304, 0x05060708, 9, 10, 11);
        Bench.due("end(20)", x.end(20), 20);
        Bench.due("end(3)", x.end(3), 3);
        Bench.due("count(10)", x.count(10), 3);
        x.feed(0x11121314, 0, 0, 0, 0);
        Bench.due("end(5)", x.end(5), 5);
        Bench.due("row", x.row(), 5);
        int[] due = {1, 2, 3, 0x11, 0x12};
        for (int cell = 0; cell < 5; cell++) {
            Bench.due("of(" + cell + ")", x.of(cell), due[cell]);
        }
        x.feed(0, 0, 0, 0, 0);
        Bench.due("end(0)", x.end(0), 0);
        Bench.due("count(10)", x.count(10), 0);
        Bench.sentence(6, "NONE, if it has not so many, or n is below 0.");
        for (int n : new int[] {-1, 8, 400, 401, Bench.LEAST, Bench.MOST}) {
            Bench.asks("end(" + n + ") of seven", y -> y.end(n), -1);
        }
        Bench.asks("end(7) of seven", y -> y.end(7), 7);
        Bench.asks(y -> y.end(0), "end(1) of none", y -> y.end(1), -1);
        Bench.asks(y -> y.end(0), "end(-1) of none", y -> y.end(-1), -1);
        Bench.asks(y -> feedOf(y, 20), "end(400) of 400", y -> y.end(400), 400);
        Bench.asks(y -> feedOf(y, 20), "end(401) of 400", y -> y.end(401), -1);
    }

    private static void rowsOfAllLengths() {
        Bench.sentence(7, "how many there are (16 at most) is n then");
        for (int bytes = 1; bytes <= 20; bytes++) {
            TwoWayWall x = new TwoWayWall();
            for (int cell = 0; cell < 8; cell++) {
                x.paint(cell, 99);
            }
            x.feed(0x01020304, 0x05060708, 0x090a0b0c, 0x0d0e0f10, 0x11121314);
            x.end(bytes);
            int n = Math.min(16, bytes);
            Bench.due("row of " + bytes, x.row(), n);
            Bench.due("count(0)", x.count(0), n);
            Bench.due("of(n - 1)", x.of(n - 1), n);
            Bench.due("of(n)", x.of(n), -1);
            Bench.due("spilt", x.spilt(), bytes - n);
        }
        Bench.sentence(7, "A ROW of CELLS, the TAPE is empty then: n.");
        TwoWayWall x = new TwoWayWall();
        Bench.type(x, "\1\2\3\4\5\6\7\10\11\12\13\14\15\16\17\20\21\22");
        x.row();
        Bench.due("count(10)", x.count(10), 0);
        Bench.due("row again", x.row(), -6);
        Bench.due("feed", x.feed(0, 0, 0, 0, 0), 20);
    }

    private static void rowsOfHighBytes() {
        Bench.sentence(7, "(A byte above 127 leaves that CELL as it was.)");
        TwoWayWall x = new TwoWayWall();
        for (int cell = 0; cell < 8; cell++) {
            x.paint(cell, 10 + cell);
        }
        Bench.type(x, "\u007f\u0080\0\u00ff\u0081\u007e\1\u00fe\u00ff\3");
        Bench.due("row", x.row(), 10);
        int[] due = {127, 11, 0, 13, 14, 126, 1, 17, 0, 3};
        for (int cell = 0; cell < 10; cell++) {
            Bench.due("of(" + cell + ")", x.of(cell), due[cell]);
        }
        Bench.type(x, "\u00ff");
        Bench.due("row of a high byte alone", x.row(), 1);
        Bench.due("of(0)", x.of(0), 127);
        Bench.due("status", x.status(), 0);
        x.size(2);
        Bench.due("of(1)", x.of(1), 0);
        Bench.type(x, "\u00ff\u0080");
        Bench.due("row", x.row(), 2);
        Bench.due("of(1), that was bare", x.of(1), 0);
    }

    private static void emptyRow() {
        Bench.sentence(7, "-6 the TAPE is empty.");
        Bench.refuses(x -> x.end(0), "row() of an empty tape", x -> x.row(), -6);
        TwoWayWall x = new TwoWayWall();
        Bench.due("row of a new object", x.row(), -6);
        Bench.due("count(0)", x.count(0), 8);
        x.feed(0, 0, 0, 0, 0);
        x.end(1);
        Bench.due("row of one byte 0", x.row(), 1);
        Bench.due("status", x.status(), 0);
    }

    private static void spilt() {
        Bench.sentence(8, "How many bytes were SPILT in the latest row() that was not REFUSED (0 ahead of any).");
        TwoWayWall x = new TwoWayWall();
        Bench.due("spilt ahead of any", x.spilt(), 0);
        x.row();
        Bench.due("spilt behind a refused one", x.spilt(), 0);
        feedOf(x, 20);
        Bench.due("row of 400", x.row(), 16);
        Bench.due("spilt", x.spilt(), 384);
        x.row();
        Bench.due("spilt behind a refused one", x.spilt(), 384);
        feedOf(x, 1);
        Bench.due("spilt ahead of the next row", x.spilt(), 384);
        x.end(17);
        x.row();
        Bench.due("spilt of 17", x.spilt(), 1);
        x.tables();
        x.image(0);
        x.size(3);
        x.back(0);
        Bench.due("spilt behind other calls", x.spilt(), 1);
        feedOf(x, 1);
        x.end(16);
        x.row();
        Bench.due("spilt of 16", x.spilt(), 0);
    }

    public static void main(String[] args) {
        eightBareCells();
        emptyAtFirst();
        fiveHundredTwelveCalls();
        sizes();
        cellsBeyondGo();
        sizeToTheSameKeepsAll();
        yardsStay();
        paints();
        cellsThatAreNot();
        fed();
        fullTape();
        ended();
        rowsOfAllLengths();
        rowsOfHighBytes();
        emptyRow();
        spilt();
        Bench.finish(1, 8);
    }
}
