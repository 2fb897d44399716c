/** The boundary cases of yards, rain, images, counts and the status: promises 33 to 41. */
public final class YardBoundaries {
    private static void tenYards(TwoWayWall x) {
        for (int i = x.count(9); i < 10; i++) {
            x.yard(0, 0, 20 + i, 20 + i, i);
        }
    }

    // Promises 33 and 34.

    private static void yardNumbers() {
        Bench.sentence(33, "A YARD: its number. -1 (CELLS beyond the WALL, to ahead of from, too)");
        TwoWayWall x = new TwoWayWall();
        Bench.due("yard(0, 7, 0, 0, 1), all cells", x.yard(0, 7, 0, 0, 1), 0);
        Bench.due("yard(7, 7, 0, 0, 1), the last", x.yard(7, 7, 0, 0, 1), 1);
        Bench.due("yard(0, 0, 0, 0, 1), the first", x.yard(0, 0, 0, 0, 1), 2);
        x.size(16);
        Bench.due("yard(15, 15, 0, 0, 1) of sixteen", x.yard(15, 15, 0, 0, 1), 3);
        int[][] cells = {{-1, 0}, {0, 4}, {4, 4}, {3, 4}, {-1, 4}, {1, 0}, {3, 2}, {3, 0}, {0, -1}, {-1, -1},
            {Bench.LEAST, 0}, {0, Bench.MOST}, {Bench.MOST, Bench.MOST}, {Bench.LEAST, Bench.MOST}};
        for (int[] c : cells) {
            Bench.refuses("yard(" + c[0] + ", " + c[1] + ", 0, 0, 0) of four", y -> y.yard(c[0], c[1], 0, 0, 0), -1);
        }
        Bench.refuses(y -> y.size(16), "yard(15, 16, 0, 0, 0) of sixteen", y -> y.yard(15, 16, 0, 0, 0), -1);
        Bench.refuses(y -> y.size(1), "yard(0, 1, 0, 0, 0) of one", y -> y.yard(0, 1, 0, 0, 0), -1);
        Bench.sentence(33, "WEEKS from .. to (0 .. 51), RENT 0 .. 999");
        Bench.due("yard(0, 0, 0, 51, 0)", x.yard(0, 0, 0, 51, 0), 4);
        Bench.due("yard(0, 0, 51, 51, 999)", x.yard(0, 0, 51, 51, 999), 5);
        int[][] weeks = {{-1, 0}, {0, 52}, {52, 52}, {51, 52}, {-1, 52}, {1, 0}, {51, 50}, {0, -1}, {Bench.LEAST, 0},
            {0, Bench.MOST}, {Bench.LEAST, Bench.MOST}};
        for (int[] w : weeks) {
            Bench.refuses("yard(0, 0, " + w[0] + ", " + w[1] + ", 0)", y -> y.yard(0, 0, w[0], w[1], 0), -1);
        }
        for (int rent : new int[] {-1, 1000, Bench.LEAST, Bench.MOST}) {
            Bench.refuses("yard(0, 0, 0, 0, " + rent + ")", y -> y.yard(0, 0, 0, 0, rent), -1);
        }
    }

    private static void tenAtMost() {
        Bench.sentence(33, "YARDS 0 .. 9 (10 at most)");
        TwoWayWall x = new TwoWayWall();
        for (int i = 0; i < 10; i++) {
            Bench.due("yard", x.yard(0, 0, i, i, 1 << i % 9), i);
            Bench.due("count(9)", x.count(9), i + 1);
        }
        Bench.due("letting(512)", x.letting(512), 1);
        Bench.due("letting(1023)", x.letting(1023), 512);
        Bench.due("yard, the eleventh", x.yard(0, 0, 40, 40, 1), -5);
        x.drop(3);
        Bench.due("yard behind drop", x.yard(0, 0, 40, 40, 1), 9);
        Bench.refuses(YardBoundaries::tenYards, "yard, the eleventh", y -> y.yard(0, 0, 50, 50, 1), -5);
        Bench.sentence(33, "The first of these in that order.");
        Bench.refuses(YardBoundaries::tenYards, "yard, the eleventh, of cell 4 of four", y -> y.yard(0, 4, 0, 0, 1), -1);
        Bench.refuses(YardBoundaries::tenYards, "yard, the eleventh, for 1000", y -> y.yard(0, 0, 0, 0, 1000), -1);
        Bench.refuses(YardBoundaries::tenYards, "yard, the eleventh, in week 52", y -> y.yard(0, 0, 0, 52, 1), -1);
    }

    private static void drops() {
        Bench.sentence(34, "A YARD goes, those behind it move up: how many are left.");
        for (int gone = 0; gone < 10; gone++) {
            TwoWayWall x = new TwoWayWall();
            for (int i = 0; i < 10; i++) {
                x.yard(i % 8, i % 8, i, 10 + i, 100 + i);
            }
            Bench.due("drop(" + gone + ")", x.drop(gone), 9);
            Bench.due("count(9)", x.count(9), 9);
            for (int i = 0; i < 9; i++) {
                Bench.due("letting(" + (1 << i) + ")", x.letting(1 << i), 100 + (i < gone ? i : i + 1));
            }
            Bench.due("letting(512)", x.letting(512), -1);
        }
        TwoWayWall x = new TwoWayWall();
        x.yard(0, 3, 0, 9, 1);
        x.yard(4, 7, 0, 9, 2);
        x.yard(0, 0, 9, 20, 4);
        x.drop(1);
        Bench.due("letting(3), which moved up with its cells", x.letting(3), -1);
        TwoWayWall moved = new TwoWayWall();
        moved.yard(7, 7, 0, 0, 1);
        moved.yard(1, 6, 10, 30, 2);
        moved.yard(1, 1, 30, 30, 4);
        moved.yard(6, 6, 10, 10, 8);
        moved.yard(1, 6, 31, 40, 16);
        moved.yard(0, 0, 0, 51, 32);
        moved.drop(0);
        int[] pairs = {3, 5, 9, 17, 6, 10, 12, 18, 24, 30};
        int[] rents = {-1, -1, 18, 34, 12, 20, 24, 36, 48, 60};
        for (int i = 0; i < pairs.length; i++) {
            Bench.due("letting(" + pairs[i] + ") of those that moved up", moved.letting(pairs[i]), rents[i]);
        }
        Bench.due("drop(1), the last", x.drop(1), 1);
        Bench.due("drop(0), the only one", x.drop(0), 0);
        Bench.due("drop(0) of none", x.drop(0), -2);
        Bench.due("yard", x.yard(0, 0, 0, 0, 0), 0);
        Bench.sentence(34, "how many are left. -2.");
        for (int no : new int[] {-1, 3, 9, 10, Bench.LEAST, Bench.MOST}) {
            Bench.refuses("drop(" + no + ") of three", y -> y.drop(no), -2);
        }
        Bench.refuses(YardBoundaries::tenYards, "drop(10) of ten", y -> y.drop(10), -2);
        Bench.refuses(y -> {
            y.drop(0);
            y.drop(0);
            y.drop(0);
        }, "drop(0) of none", y -> y.drop(0), -2);
    }

    // Promises 35 and 36.

    private static void inCommon() {
        Bench.sentence(35, "no two of which have a CELL and a WEEK in common");
        int[][] others = {{0, 1, 10, 20}, {0, 2, 10, 20}, {5, 7, 10, 20}, {6, 7, 10, 20}, {3, 4, 0, 9}, {3, 4, 0, 10},
            {3, 4, 20, 30}, {3, 4, 21, 30}, {0, 7, 0, 51}, {3, 3, 15, 15}, {0, 1, 0, 51}, {0, 7, 0, 9}, {2, 5, 10, 20},
            {2, 2, 10, 10}, {5, 5, 20, 20}, {1, 1, 9, 9}, {6, 6, 21, 21}};
        boolean[] meets = {false, true, true, false, false, true, true, false, true, true, false, false, true, true, true, false,
            false};
        for (int i = 0; i < others.length; i++) {
            int[] o = others[i];
            for (int order = 0; order < 2; order++) {
                TwoWayWall x = new TwoWayWall();
                if (order == 0) {
                    x.yard(2, 5, 10, 20, 30);
                }
                x.yard(o[0], o[1], o[2], o[3], 4);
                if (order == 1) {
                    x.yard(2, 5, 10, 20, 30);
                }
                Bench.due("letting(3), other " + i, x.letting(3), meets[i] ? -1 : 34);
                Bench.due("best(0), other " + i, x.best(0), meets[i] ? 30 : 34);
            }
        }
    }

    private static void lettings() {
        Bench.sentence(35, "NONE (two have a CELL and a WEEK in common, no such YARD, too)");
        int[] due = {0, 5, 20, -1, 999, 1004, -1, -1};
        for (int bits = 0; bits < 8; bits++) {
            int yards = bits;
            Bench.asks("letting(" + bits + ")", x -> x.letting(yards), due[bits]);
        }
        for (int no : new int[] {8, 9, 13, 512, 1023, 1024, 1 << 30, -1, -8, Bench.LEAST, Bench.LEAST + 1, Bench.MOST}) {
            Bench.asks("letting(" + no + ") of three", x -> x.letting(no), -1);
        }
        TwoWayWall x = new TwoWayWall();
        Bench.due("letting(0) without yards", x.letting(0), 0);
        Bench.due("letting(1) without yards", x.letting(1), -1);
        for (int i = 0; i < 10; i++) {
            x.yard(0, 7, i, i, 999);
        }
        Bench.due("letting(1023), the most there is", x.letting(1023), 9990);
        Bench.due("letting(1024)", x.letting(1024), -1);
        Bench.due("letting(1025)", x.letting(1025), -1);
        Bench.due("letting(least)", x.letting(Bench.LEAST), -1);
        Bench.due("letting(-1)", x.letting(-1), -1);
    }

    private static void bests() {
        Bench.sentence(36, "BEST: RENT (what 0), YARDS (1), how many LETTINGS bring as much (2). NONE.");
        TwoWayWall x = new TwoWayWall();
        Bench.due("best(0) without yards", x.best(0), 0);
        Bench.due("best(1) without yards", x.best(1), 0);
        Bench.due("best(2) without yards", x.best(2), 1);
        for (int i = 0; i < 10; i++) {
            x.yard(0, 7, i, i, 999);
        }
        Bench.due("best(0), the most there is", x.best(0), 9990);
        Bench.due("best(1)", x.best(1), 1023);
        Bench.due("best(2)", x.best(2), 1);
        Bench.asks("best(0)", y -> y.best(0), 1004);
        Bench.asks("best(1)", y -> y.best(1), 5);
        Bench.asks("best(2)", y -> y.best(2), 1);
        for (int no : new int[] {-1, 3, Bench.LEAST, Bench.MOST}) {
            Bench.asks("best(" + no + ")", y -> y.best(no), -1);
        }
        Bench.sentence(36, "BEST: the most RENT, of alike ones the lowest as bits.");
        TwoWayWall z = new TwoWayWall();
        for (int i = 0; i < 10; i++) {
            z.yard(0, 7, i, i, 0);
        }
        Bench.due("best(0), all for nothing", z.best(0), 0);
        Bench.due("best(1), all for nothing", z.best(1), 0);
        Bench.due("best(2), all for nothing", z.best(2), 1024);
        TwoWayWall w = new TwoWayWall();
        for (int i = 0; i < 10; i++) {
            w.yard(0, 7, 0, 51, 5);
        }
        Bench.due("best(0), all of the same ground", w.best(0), 5);
        Bench.due("best(1), all of the same ground", w.best(1), 1);
        Bench.due("best(2), all of the same ground", w.best(2), 10);
        TwoWayWall v = new TwoWayWall();
        v.yard(0, 1, 0, 0, 6);
        v.yard(0, 0, 0, 0, 2);
        v.yard(1, 1, 0, 0, 4);
        Bench.due("best(1), one or two others", v.best(1), 1);
        Bench.due("best(2), one or two others", v.best(2), 2);
    }

    // Promise 37.

    private static int draw(long seed) {
        return (int) ((seed * 1103 + 12345) % 1_000_003 % 100);
    }

    private static int seedWithDraw(int draw, int from) {
        for (int seed = from; seed <= 1_000_000; seed++) {
            if (draw(seed) == draw) {
                return seed;
            }
        }
        return -1;
    }

    private static void rainNumbers() {
        Bench.sentence(37, "RAIN with a SEED, so hard (0 .. 100): s is the SEED (0 .. 1,000,000)");
        for (int seed : new int[] {0, 1_000_000}) {
            for (int hard : new int[] {0, 100}) {
                TwoWayWall x = Bench.rich();
                Bench.due("rain(" + seed + ", " + hard + ")", x.rain(seed, hard), hard == 0 ? 0 : 6);
                Bench.due("status", x.status(), 0);
                Bench.due("of(0)", x.of(0), hard == 0 ? 5 : 0);
                Bench.due("of(3)", x.of(3), hard == 0 ? 6 : 0);
            }
        }
        for (int no : new int[] {-1, 1_000_001, 1_000_002, 1_000_003, Bench.LEAST, Bench.MOST}) {
            Bench.refuses("rain(" + no + ", 100)", x -> x.rain(no, 100), -1);
        }
        for (int no : new int[] {-1, 101, Bench.LEAST, Bench.MOST}) {
            Bench.refuses("rain(5, " + no + ")", x -> x.rain(5, no), -1);
        }
        Bench.refuses("rain(-1, 101)", x -> x.rain(-1, 101), -1);
    }

    private static void belowHowHard() {
        Bench.sentence(37, "it is washed off, if that is below how hard");
        for (int draw : new int[] {0, 1, 49, 98, 99}) {
            for (int from : new int[] {0, 999_000}) {
                int seed = seedWithDraw(draw, from);
                TwoWayWall x = new TwoWayWall();
                x.paint(7, 64);
                Bench.due("rain as hard as the draw " + draw, x.rain(seed, draw), 0);
                Bench.due("of(7)", x.of(7), 64);
                Bench.due("rain harder by one than the draw " + draw, x.rain(seed, draw + 1), 1);
                Bench.due("of(7)", x.of(7), 0);
            }
        }
    }

    private static void drawsWrapAround() {
        Bench.sentence(37, "s becomes (s times 1103 and 12345) modulo 1,000,003, it is s modulo m");
        long[] turns = {0, 999_999, 1_000_002};
        for (long due : turns) {
            for (int seed = 0; seed <= 1_000_000; seed++) {
                if ((seed * 1103L + 12345) % 1_000_003 == due) {
                    TwoWayWall x = new TwoWayWall();
                    x.paint(0, 1);
                    Bench.due("rain to " + due, x.rain(seed, (int) (due % 100)), 0);
                    Bench.due("rain to " + due, x.rain(seed, (int) (due % 100) + 1), 1);
                    break;
                }
            }
        }
        Bench.sentence(37, "CELL by CELL, STROKE by STROKE that is there (1 .. 7) a DRAW of 100");
        for (int seed : new int[] {0, 1, 895, 896, 906, 500_000, 999_999, 1_000_000}) {
            for (int hard : new int[] {1, 30, 50, 99}) {
                rainByHand(seed, hard);
            }
        }
        TwoWayWall x = new TwoWayWall();
        Bench.due("rain on a bare wall", x.rain(0, 100), 0);
        x.size(1);
        x.paint(0, 127);
        Bench.due("rain on a full cell", x.rain(0, 100), 7);
    }

    private static void rainByHand(int seed, int hard) {
        TwoWayWall x = new TwoWayWall();
        x.size(16);
        int[] cells = {127, 0, 64, 1, 85, 42, 127, 3, 0, 96, 127, 127, 8, 20, 0, 65};
        for (int cell = 0; cell < 16; cell++) {
            x.paint(cell, cells[cell]);
            x.lost(cell, 127 - cell);
        }
        long s = seed;
        int off = 0;
        for (int cell = 0; cell < 16; cell++) {
            for (int stroke = 1; stroke <= 7; stroke++) {
                int bit = 1 << stroke - 1;
                if ((cells[cell] & bit) != 0) {
                    s = (s * 1103 + 12345) % 1_000_003;
                    if (s % 100 < hard) {
                        cells[cell] -= bit;
                        off++;
                    }
                }
            }
        }
        Bench.due("rain(" + seed + ", " + hard + ")", x.rain(seed, hard), off);
        for (int cell = 0; cell < 16; cell++) {
            Bench.due("of(" + cell + ")", x.of(cell), cells[cell]);
            Bench.due("lost(" + cell + ")", x.lost(cell, 0), 127 - cell);
        }
    }

    // Promises 38 and 39.

    private static void imageNumbers() {
        Bench.sentence(38, "IMAGE k is kept: 0; -1.");
        TwoWayWall x = new TwoWayWall();
        Bench.due("image(0)", x.image(0), 0);
        Bench.due("image(1)", x.image(1), 0);
        Bench.due("image(1) again", x.image(1), 0);
        for (int no : new int[] {-1, 2, 3, Bench.LEAST, Bench.MOST}) {
            Bench.refuses("image(" + no + ")", y -> y.image(no), -1);
        }
        Bench.sentence(38, "IMAGE k is kept");
        Bench.same("image(0) and image(1)", y -> {
            y.image(0);
            y.image(1);
            change(y);
            y.image(1);
            y.back(0);
        }, y -> {
            y.image(0);
            change(y);
            y.image(1);
            undo(y);
        });
    }

    /** Changes all that an image keeps, and nothing else. */
    private static void change(TwoWayWall x) {
        x.paint(0, 77);
        x.lost(1, 33);
        x.size(9);
        x.hush(0);
        x.say(0, 3);
        x.say(1, 3);
        x.forget(1);
        x.mean(0, 7);
        x.mean(1, 1);
        for (int i = 0; i < 3; i++) {
            x.drop(0);
        }
        x.yard(0, 8, 0, 51, 7);
        x.yard(8, 8, 9, 9, 8);
        x.rain(3, 50);
    }

    /** To where a rich object is, from behind change(). */
    private static void undo(TwoWayWall x) {
        x.size(4);
        int[] cells = {5, 10, 0, 6};
        for (int cell = 0; cell < 4; cell++) {
            x.paint(cell, cells[cell]);
        }
        x.lost(1, 0);
        x.hush(0);
        x.hush(1);
        Bench.fill(x, 2, 0, 2);
        x.forget(0);
        x.forget(1);
        x.mean(0, 0);
        x.mean(0, 1);
        x.mean(1, 2);
        x.mean(1, 3);
        x.drop(1);
        x.drop(0);
        x.yard(0, 2, 3, 4, 5);
        x.yard(1, 3, 4, 20, 20);
        x.yard(3, 3, 0, 51, 999);
    }

    private static void backNumbers() {
        Bench.sentence(39, "BACK to IMAGE k: 0. -1; -2 it was not kept.");
        for (int no : new int[] {-1, 2, 3, Bench.LEAST, Bench.MOST}) {
            Bench.refuses("back(" + no + ")", x -> x.back(no), -1);
        }
        TwoWayWall x = new TwoWayWall();
        Bench.due("back(0)", x.back(0), -2);
        Bench.due("status", x.status(), -2);
        Bench.due("back(1)", x.back(1), -2);
        x.size(3);
        x.image(1);
        x.size(5);
        Bench.due("back(0), 1 alone is kept", x.back(0), -2);
        Bench.due("count(0), which stays", x.count(0), 5);
        Bench.due("count(12)", x.count(12), 3);
        Bench.due("back(1)", x.back(1), 0);
        Bench.due("count(0)", x.count(0), 3);
        Bench.due("back(2)", x.back(2), -1);
        Bench.due("count(11)", x.count(11), 1);
    }

    private static void tellOther(TwoWayWall x) {
        x.end(0);
        Bench.tell(x, "east a 7;east z 1;drop west a;west b 1;mirror 7654321;cost 1 9;cost 2 8;word east 6 zz;word west 5 q");
    }

    private static void backToAll() {
        Bench.sentence(39, "BACK to one all that it keeps is as it was then (IMAGES stay)");
        for (int k = 0; k < 2; k++) {
            int image = k;
            Bench.same("back(" + k + ")", x -> {
                x.image(image);
                change(x);
                x.back(image);
            }, x -> x.image(image));
            Bench.same("back(" + k + ") twice", x -> {
                x.image(image);
                change(x);
                x.back(image);
                change(x);
                x.back(image);
            }, x -> x.image(image));
            Bench.same("back(" + k + ") behind other tables", x -> {
                x.image(image);
                tellOther(x);
                change(x);
                x.back(image);
            }, x -> {
                x.image(image);
                x.end(0);
                Bench.tell(x, "cost 7 0");
            });
            Bench.same("back(" + k + ") and back to the other", x -> {
                x.back(image);
                change(x);
                x.back(1 - image);
            }, x -> x.back(1 - image));
        }
    }

    private static void allButThese() {
        Bench.sentence(39, "IMAGES 0, 1 keep all but the TAPE, FAULT, SPILT");
        Bench.same("back(1) with another tape", x -> {
            x.image(1);
            x.end(5);
            x.back(1);
        }, x -> {
            x.image(1);
            x.end(5);
        });
        Bench.same("back(1) with another fault", x -> {
            x.image(1);
            Bench.type(x, "?");
            x.tables();
            x.back(1);
        }, x -> {
            x.image(1);
            Bench.type(x, "?");
            x.tables();
        });
        TwoWayWall x = new TwoWayWall();
        Bench.type(x, "?");
        x.tables();
        Bench.type(x, "12345678901234567");
        x.row();
        x.feed(0, 0, 0, 0, 0);
        x.image(0);
        Bench.due("spilt", x.spilt(), 1);
        Bench.type(x, "123456789012345678");
        x.row();
        Bench.type(x, " ?");
        x.tables();
        Bench.type(x, "abc");
        x.back(0);
        Bench.due("spilt, as it is", x.spilt(), 22);
        Bench.due("fault, as it is", x.fault(), 1);
        Bench.due("count(10), as it is", x.count(10), 3);
    }

    // Promises 40 and 41.

    private static void counts() {
        Bench.sentence(40, "NONE for others.");
        int[] due = {4, 2, 2, 2, 2, 2, 2, 2, 2, 3, 7, 0, 0, 0, 1, 2, 1, 3, 4, 5, 6, 7, 5, 1, 1, 1, 1, 1, 0};
        for (int what = 0; what < due.length; what++) {
            int asked = what;
            Bench.due("count(" + what + ")", Bench.rich().count(asked), due[what]);
        }
        for (int no : new int[] {-1, -2, 29, 30, 32, Bench.LEAST, Bench.MOST}) {
            Bench.asks("count(" + no + ")", x -> x.count(no), -1);
        }
        Bench.sentence(40, "how many calls were REFUSED by -1, -2, -5, -6 (IMAGES do not keep that)");
        TwoWayWall x = new TwoWayWall();
        x.image(0);
        x.size(0);
        x.drop(0);
        x.drop(0);
        for (int i = 0; i < 7; i++) {
            x.mean(0, 0);
        }
        for (int i = 0; i < 4; i++) {
            x.row();
        }
        x.back(0);
        for (int i = 0; i < 4; i++) {
            Bench.due("count(" + (11 + i) + ") behind back", x.count(11 + i), i + 1);
        }
    }

    private static final Bench.Call[] REFUSED = {x -> x.size(0), x -> x.paint(-1, 0), x -> emptied(x).row(),
        x -> emptied(x).tables(), x -> x.say(2, 0), x -> x.hush(2), x -> x.mean(0, 8), x -> x.forget(2), x -> x.lost(0, 128),
        x -> x.yard(0, 0, 0, 0, 1000), x -> x.drop(10), x -> x.rain(0, 101), x -> x.image(2), x -> x.back(2)};
    private static final Bench.Call[] GRANTED = {x -> x.size(4), x -> x.paint(0, 0), x -> x.row(), x -> costTold(x),
        x -> x.say(0, 0), x -> x.hush(0), x -> x.mean(0, 0), x -> x.forget(0), x -> x.lost(0, 127),
        x -> x.yard(0, 0, 0, 0, 999), x -> x.drop(0), x -> x.rain(0, 100), x -> x.image(0), x -> x.back(0)};
    private static final int[] BY = {-1, -1, -6, -6, -1, -1, -1, -1, -1, -1, -2, -1, -1, -1};

    private static TwoWayWall emptied(TwoWayWall x) {
        x.end(0);
        return x;
    }

    private static long costTold(TwoWayWall x) {
        x.end(0);
        Bench.type(x, "cost 1 1");
        return x.tables();
    }

    private static void statuses() {
        Bench.sentence(41, "What the latest call of size, paint, row, tables, say, hush, mean, forget, lost, yard, drop, rain, "
            + "image, back was REFUSED by; 0 if it was not, or ahead of any.");
        Bench.due("status() ahead of any", new TwoWayWall().status(), 0);
        for (int i = 0; i < REFUSED.length; i++) {
            TwoWayWall x = Bench.rich();
            REFUSED[i].on(x);
            Bench.due("status() behind refused call " + i, x.status(), BY[i]);
            Bench.due("status() again", x.status(), BY[i]);
            for (int j = 0; j < GRANTED.length; j++) {
                TwoWayWall y = Bench.rich();
                REFUSED[i].on(y);
                if (j == 2) {
                    Bench.type(y, "row");
                }
                GRANTED[j].on(y);
                Bench.due("status() behind call " + j + " behind refused call " + i, y.status(), 0);
            }
        }
        TwoWayWall z = new TwoWayWall();
        z.back(1);
        Bench.due("status() behind back of what was not kept", z.status(), -2);
        for (int i = 0; i < 17; i++) {
            z.say(0, 0);
        }
        Bench.due("status() behind say without room", z.status(), -5);
        z.mean(0, 0);
        Bench.due("status()", z.status(), 0);
    }

    /** Calls that are not in the list change no status, whether they can be answered or not. */
    private static void callsThatAreNotListed() {
        Bench.sentence(41, "0 if it was not, or ahead of any");
        Bench.Call[] others = {x -> x.of(99), x -> x.feed(0, 0, 0, 0, 0), x -> x.end(-1), x -> x.end(0), x -> x.spilt(),
            x -> x.fault(), x -> x.letter(9, 9, 9), x -> x.word(9, 9, 9), x -> x.reads(9, 9), x -> x.read(9, 9),
            x -> x.spoken(9), x -> x.pair(99, 0, 0), x -> x.partners(99), x -> x.pairs(), x -> x.near(9), x -> x.nearAt(99),
            x -> x.tells(), x -> x.price(), x -> x.first(99), x -> x.lengths(99), x -> x.may(), x -> x.sure(99, 0),
            x -> x.often(99, 1), x -> x.letting(-1), x -> x.best(9), x -> x.count(99)};
        for (int i = 0; i < others.length; i++) {
            TwoWayWall x = new TwoWayWall();
            others[i].on(x);
            Bench.due("status() of a new object behind other " + i, x.status(), 0);
            Bench.due("count(11) of a new object behind other " + i, x.count(11), 0);
            x.drop(0);
            others[i].on(x);
            Bench.due("status() behind other " + i, x.status(), -2);
            x.size(8);
            others[i].on(x);
            Bench.due("status() behind other " + i, x.status(), 0);
        }
        TwoWayWall full = new TwoWayWall();
        for (int i = 0; i < 21; i++) {
            full.feed(0, 0, 0, 0, 0);
        }
        Bench.due("status() behind a feed without room", full.status(), 0);
        Bench.due("count(13) behind a feed without room", full.count(13), 0);
    }

    public static void main(String[] args) {
        yardNumbers();
        tenAtMost();
        drops();
        inCommon();
        lettings();
        bests();
        rainNumbers();
        belowHowHard();
        drawsWrapAround();
        imageNumbers();
        backNumbers();
        backToAll();
        allButThese();
        counts();
        statuses();
        callsThatAreNotListed();
        Bench.finish(33, 41);
    }
}
