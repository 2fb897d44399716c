import java.io.IOException;
import java.nio.file.Files;
import java.nio.file.Path;
import java.util.ArrayList;
import java.util.List;
import java.util.Set;
import java.util.TreeSet;

/** What the tests of the document's boundary cases have in common. */
final class Bench {
    /** One call, with its answer. */
    interface Call {
        long on(TwoWayWall x);
    }

    /** Some calls whose answers do not matter. */
    interface Acts {
        void on(TwoWayWall x);
    }

    private interface Look {
        void at(TwoWayWall x, List<String> seen);
    }

    static final int LEAST = Integer.MIN_VALUE;
    static final int MOST = Integer.MAX_VALUE;
    private static final int[] REASONS = {-1, -2, -5, -6};
    private static final int HIGHEST_CELLS = 16;

    private static final String DOCUMENT = document();
    private static final Set<Integer> PROMISES = new TreeSet<>();
    private static int promise;
    private static String sentence = "";
    private static int sentences;
    private static int asked;
    private static int wrong;

    private Bench() {
    }

    private static String document() {
        try {
            return Files.readString(Path.of("../shared/DOC.md"));
        } catch (IOException e) {
            return "";
        }
    }

    /** The answers from here on hold to these words of that promise, or of the terms it rests on. */
    static void sentence(int ofPromise, String words) {
        promise = ofPromise;
        sentence = words;
        sentences++;
        PROMISES.add(promise);
        String terms = between("## Terms", "## Promise 1:");
        String own = between("## Promise " + promise + ":", promise == 41 ? "## Not" : "## Promise " + (promise + 1) + ":");
        boolean general = DOCUMENT.substring(0, Math.max(0, DOCUMENT.indexOf("## Terms"))).contains(words);
        if (!terms.contains(words) && !own.contains(words) && !general) {
            tell("the document has no such words");
        }
    }

    private static String between(String from, String to) {
        int start = DOCUMENT.indexOf(from);
        int end = DOCUMENT.indexOf(to);
        return start < 0 || end < start ? "" : DOCUMENT.substring(start, end);
    }

    private static void tell(String what) {
        wrong++;
        System.out.println("promise " + promise + ", '" + sentence + "': " + what);
    }

    static void due(String call, long got, long want) {
        asked++;
        if (got != want) {
            tell(call + " answered " + got + ", due is " + want);
        }
    }

    /** Puts the text behind the tape. */
    static void type(TwoWayWall x, String text) {
        int had = x.count(10);
        for (int at = 0; at < text.length(); at += 20) {
            int[] numbers = new int[5];
            for (int i = 0; i < 20; i++) {
                int sign = at + i < text.length() ? text.charAt(at + i) : 0;
                numbers[i / 4] = numbers[i / 4] << 8 | sign;
            }
            x.feed(numbers[0], numbers[1], numbers[2], numbers[3], numbers[4]);
        }
        if (x.end(had + text.length()) < 0) {
            tell("no room on the tape for '" + text + "'");
        }
    }

    static void tell(TwoWayWall x, String text) {
        type(x, text);
        if (x.tables() < 0) {
            tell("can't be told, at " + x.fault() + ": '" + text + "'");
        }
    }

    static TwoWayWall told(String text) {
        TwoWayWall x = new TwoWayWall();
        tell(x, text);
        return x;
    }

    /** Something of all that an object can hold, so that whatever a refused call spoils is seen. */
    static TwoWayWall rich() {
        TwoWayWall x = told("east a 1 not 7;east b 2;west a 3;west c 4 not 5;word east 0 ab;word east 1 b;"
            + "word west 2 a;word west 3 ca;mirror 2134567;cost 1 5;cost 7 0");
        type(x, "\1\2\3\4\5\6\7\10\11\12\13\14\15\16\17\20\21\22");
        x.row();
        x.size(3);
        x.lost(2, 6);
        fill(x, 2, 0, 2);
        x.mean(0, 1);
        x.mean(1, 2);
        x.yard(0, 2, 3, 4, 5);
        x.image(0);
        x.size(6);
        x.image(1);
        x.size(4);
        int[] cells = {5, 10, 0, 6};
        int[] lost = {97, 0, 3, 16};
        for (int cell = 0; cell < 4; cell++) {
            x.paint(cell, cells[cell]);
            x.lost(cell, lost[cell]);
        }
        x.mean(1, 3);
        x.forget(0);
        x.mean(0, 0);
        x.mean(0, 1);
        x.yard(1, 3, 4, 20, 20);
        x.yard(3, 3, 0, 51, 999);
        type(x, "cost 3 8;east");
        x.tables();
        type(x, "\4\3tape\1");
        return x;
    }

    /** Letters a .. g are each one set of strokes 1 to 3 in East, 4 to 6 in West; stroke 7 is free. */
    static TwoWayWall sevenLetters() {
        StringBuilder b = new StringBuilder();
        String[] strokes = {"123", "12", "13", "23", "1", "2", "3"};
        for (int i = 0; i < 7; i++) {
            b.append(i == 0 ? "" : ";").append("east ").append((char) ('a' + i)).append(' ').append(strokes[i]);
            String west = strokes[i].replace('1', '4').replace('2', '5').replace('3', '6');
            b.append(";west ").append((char) ('a' + i)).append(' ').append(west);
        }
        return told(b.toString());
    }

    /** Texts of both tongues, so many letters longer. */
    static void fill(TwoWayWall x, int more, int east, int west) {
        for (int i = 0; i < more; i++) {
            x.say(0, east);
            x.say(1, west);
        }
    }

    /** A call on a rich object, behind some others, is refused so and leaves all that there was. */
    static void refuses(Acts before, String name, Call call, int by) {
        refusesBut(before, name, call, by, x -> { }, true);
    }

    static void refuses(String name, Call call, int by) {
        refuses(x -> { }, name, call, by);
    }

    /** The same, but for what these acts would change, and for the fault if that is not looked at. */
    static void refusesBut(Acts before, String name, Call call, int by, Acts change, boolean withFault) {
        TwoWayWall x = rich();
        before.on(x);
        long[] had = refusals(x);
        due(name, call.on(x), by);
        due("status() behind " + name, x.status(), by);
        long[] has = refusals(x);
        for (int i = 0; i < REASONS.length; i++) {
            long more = REASONS[i] == by ? 1 : 0;
            due("count(" + (11 + i) + ") behind " + name, has[i], had[i] + more);
        }
        compare(before, name, call, change, withFault ? looks() : looksWithoutFault());
    }

    /** A call that asks only: it answers so, changes nothing and is no refusal. */
    static void asks(Acts before, String name, Call call, long want) {
        TwoWayWall x = rich();
        before.on(x);
        x.rain(-1, 0);
        long[] had = refusals(x);
        due(name, call.on(x), want);
        due("status() behind " + name, x.status(), -1);
        long[] has = refusals(x);
        for (int i = 0; i < REASONS.length; i++) {
            due("count(" + (11 + i) + ") behind " + name, has[i], had[i]);
        }
        compare(before, name, call, y -> { }, looks());
    }

    static void asks(String name, Call call, long want) {
        asks(x -> { }, name, call, want);
    }

    private static long[] refusals(TwoWayWall x) {
        long[] counts = new long[REASONS.length];
        for (int i = 0; i < counts.length; i++) {
            counts[i] = x.count(11 + i);
        }
        return counts;
    }

    private static void compare(Acts before, String name, Call call, Acts change, List<Look> looks) {
        compare(name, x -> {
            before.on(x);
            call.on(x);
        }, x -> {
            before.on(x);
            change.on(x);
        }, looks);
    }

    /** Two rows of calls on a rich object come to the same, but for status and refusals. */
    static void same(String name, Acts one, Acts other) {
        compare(name, one, other, looks());
    }

    /** An object serves 512 calls: each look has two new ones. */
    private static void compare(String name, Acts one, Acts other, List<Look> looks) {
        for (Look look : looks) {
            TwoWayWall x = rich();
            one.on(x);
            TwoWayWall y = rich();
            other.on(y);
            List<String> got = new ArrayList<>();
            List<String> want = new ArrayList<>();
            look.at(x, got);
            look.at(y, want);
            asked++;
            for (int i = 0; i < want.size(); i++) {
                if (!got.get(i).equals(want.get(i))) {
                    tell("behind " + name + " " + got.get(i) + ", due is that " + want.get(i));
                    break;
                }
            }
        }
    }

    private static List<Look> looks() {
        List<Look> all = new ArrayList<>(looksWithoutFault());
        all.add((x, seen) -> note(seen, "fault", x.fault()));
        return all;
    }

    private static List<Look> looksWithoutFault() {
        return List.of(Bench::counts, Bench::stories, Bench::lostOnes, Bench::letters, Bench::readings, Bench::tape,
            (x, seen) -> image(x, 0, seen), (x, seen) -> image(x, 1, seen));
    }

    private static void note(List<String> seen, String call, long answer) {
        seen.add(call + " is " + answer);
    }

    private static void counts(TwoWayWall x, List<String> seen) {
        for (int what = 0; what < 29; what++) {
            if (what < 11 || what > 14) {
                note(seen, "count(" + what + ")", x.count(what));
            }
        }
        for (int cell = 0; cell < HIGHEST_CELLS; cell++) {
            note(seen, "of(" + cell + ")", x.of(cell));
            note(seen, "read(0, " + cell + ")", x.read(0, cell));
            note(seen, "read(1, " + cell + ")", x.read(1, cell));
        }
        note(seen, "spoken(0)", x.spoken(0));
        note(seen, "spoken(1)", x.spoken(1));
        note(seen, "spilt", x.spilt());
        note(seen, "pairs", x.pairs());
        for (int a = 0; a < 10; a++) {
            for (int b = 0; b <= a; b++) {
                note(seen, "letting(" + (1 << a | 1 << b) + ")", x.letting(1 << a | 1 << b));
            }
        }
        for (int what = 0; what < 3; what++) {
            note(seen, "best(" + what + ")", x.best(what));
        }
    }

    private static void stories(TwoWayWall x, List<String> seen) {
        for (int what = 0; what < 3; what++) {
            note(seen, "near(" + what + ")", x.near(what));
        }
        note(seen, "tells", x.tells());
        note(seen, "price", x.price());
        for (int i = -1; i < HIGHEST_CELLS; i++) {
            note(seen, "nearAt(" + i + ")", x.nearAt(i));
            note(seen, "first(" + i + ")", x.first(i));
            note(seen, "lengths(" + i + ")", x.lengths(i));
        }
    }

    private static void lostOnes(TwoWayWall x, List<String> seen) {
        note(seen, "may", x.may());
        for (int cell = 0; cell < HIGHEST_CELLS; cell++) {
            for (int what = 0; what < 3; what++) {
                note(seen, "sure(" + cell + ", " + what + ")", x.sure(cell, what));
            }
            for (int stroke = 1; stroke < 8; stroke++) {
                note(seen, "often(" + cell + ", " + stroke + ")", x.often(cell, stroke));
            }
        }
        for (int cell = 0; cell < HIGHEST_CELLS; cell++) {
            note(seen, "lost(" + cell + ", 0)", x.lost(cell, 0));
        }
    }

    private static void letters(TwoWayWall x, List<String> seen) {
        for (int tongue = 0; tongue < 2; tongue++) {
            for (int letter = 0; letter < 26; letter++) {
                note(seen, "letter(" + tongue + ", " + letter + ", 0)", x.letter(tongue, letter, 0));
                note(seen, "letter(" + tongue + ", " + letter + ", 1)", x.letter(tongue, letter, 1));
            }
            for (int word = 0; word < 8; word++) {
                for (int what = 0; what < 8; what++) {
                    note(seen, "word(" + tongue + ", " + word + ", " + what + ")", x.word(tongue, word, what));
                }
            }
        }
    }

    private static void readings(TwoWayWall x, List<String> seen) {
        for (int set = 0; set < 128; set++) {
            note(seen, "reads(0, " + set + ")", x.reads(0, set));
            note(seen, "reads(1, " + set + ")", x.reads(1, set));
        }
    }

    private static void tape(TwoWayWall x, List<String> seen) {
        note(seen, "row", x.row());
        note(seen, "spilt", x.spilt());
        for (int cell = 0; cell < HIGHEST_CELLS; cell++) {
            note(seen, "of(" + cell + ") behind row", x.of(cell));
        }
    }

    private static void image(TwoWayWall x, int k, List<String> seen) {
        note(seen, "back(" + k + ")", x.back(k));
        counts(x, seen);
        stories(x, seen);
        for (int cell = 0; cell < HIGHEST_CELLS; cell++) {
            note(seen, "lost(" + cell + ", 0)", x.lost(cell, 0));
        }
    }

    /** Each of these promises must have had a sentence. */
    static void finish(int first, int last) {
        for (int i = first; i <= last; i++) {
            if (!PROMISES.contains(i)) {
                wrong++;
                System.out.println("promise " + i + " has no test");
            }
        }
        System.out.println(sentences + " sentences, " + asked + " answers, " + wrong + " of them not as due");
        if (wrong != 0) {
            System.exit(1);
        }
    }
}
