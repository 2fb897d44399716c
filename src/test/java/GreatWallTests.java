import java.math.BigInteger;
import java.util.ArrayList;
import java.util.LinkedHashMap;
import java.util.List;
import java.util.Map;
import java.util.Random;
import java.util.Set;
import java.util.TreeMap;
import java.util.TreeSet;

/**
 * Promises 25 to 28 and 30 to 32 for walls of which there are far too many to go through: beside a
 * model that keeps, cell by cell, all places in the rows of words where a reader may stand. East's
 * places go on from the start, West's go back from the end.
 */
public final class GreatWallTests {
    private static final long TRILLION = 1_000_000_000_000L;
    private static final char GAP = '.';
    private static int asked;
    private static int wrong;
    private static int full;
    private static int found;

    private static void due(String call, long got, long want) {
        asked++;
        full += want == TRILLION ? 1 : 0;
        found += want > 0 ? 1 : 0;
        if (got != want) {
            wrong++;
            System.out.println(call + " answered " + got + ", due is " + want);
        }
    }

    /** A word of a tongue with its meaning. */
    private record Word(int meaning, String letters) {
    }

    /** Where in a row of words a reader may stand, and which letter leads from where to where. */
    private static final class Places {
        private static final String START = "start";
        private final Map<String, Map<Character, Set<String>>> ways = new TreeMap<>();
        private final Set<String> ends = new TreeSet<>();

        private void way(String from, char sign, String to) {
            ways.computeIfAbsent(from, f -> new TreeMap<>()).computeIfAbsent(sign, s -> new TreeSet<>()).add(to);
        }

        private String along(String from, int turn, int word, String letters) {
            String at = from;
            for (int i = 0; i < letters.length(); i++) {
                String next = turn + "/" + word + "/" + i;
                way(at, letters.charAt(i), next);
                at = next;
            }
            return at;
        }

        static Places ofStory(List<Word> words, List<Integer> story) {
            Places p = new Places();
            if (story.isEmpty()) {
                p.way(START, GAP, START);
                p.ends.add(START);
            }
            for (int turn = 0; turn < story.size(); turn++) {
                for (int word = 0; word < words.size(); word++) {
                    if (words.get(word).meaning() == story.get(turn)) {
                        String from = turn == 0 ? START : "between" + turn;
                        String last = p.along(from, turn, word, words.get(word).letters());
                        if (turn == story.size() - 1) {
                            p.ends.add(last);
                        } else {
                            p.way(last, GAP, "between" + (turn + 1));
                        }
                    }
                }
            }
            return p;
        }

        static Places ofWords(List<Word> words) {
            Places p = new Places();
            for (int word = 0; word < words.size(); word++) {
                String last = p.along(START, 0, word, words.get(word).letters());
                p.ends.add(last);
                p.way(last, GAP, START);
            }
            return p;
        }

        Set<String> ahead(Set<String> from, char sign) {
            Set<String> to = new TreeSet<>();
            for (String place : from) {
                to.addAll(ways.getOrDefault(place, Map.of()).getOrDefault(sign, Set.of()));
            }
            return to;
        }

        Set<String> back(Set<String> to, char sign) {
            Set<String> from = new TreeSet<>();
            for (String place : ways.keySet()) {
                for (String next : ways.get(place).getOrDefault(sign, Set.of())) {
                    if (to.contains(next)) {
                        from.add(place);
                    }
                }
            }
            return from;
        }
    }

    /** Where both readers may stand. */
    private record Both(Set<String> east, Set<String> west) {
    }

    /** How many walls, and the first of them. */
    private record Walls(BigInteger many, int cost, List<Integer> first) {
        static final Walls NO_WALL = new Walls(BigInteger.ZERO, 0, List.of());

        Walls and(Walls other) {
            if (many.signum() == 0) {
                return other;
            }
            if (other.many.signum() == 0) {
                return this;
            }
            Walls ahead = isAhead(other) ? this : other;
            return new Walls(many.add(other.many), ahead.cost, ahead.first);
        }

        private boolean isAhead(Walls other) {
            if (cost != other.cost) {
                return cost < other.cost;
            }
            for (int i = 0; i < first.size(); i++) {
                if (!first.get(i).equals(other.first.get(i))) {
                    return first.get(i) < other.first.get(i);
                }
            }
            return true;
        }

        long manyAtMost() {
            return many.min(BigInteger.valueOf(TRILLION)).longValue();
        }
    }

    /** What was told, as the model knows it. */
    private static final class Told {
        final char[][] seen = new char[2][128];
        final int[] costs = {1, 1, 1, 1, 1, 1, 1};
        final List<List<Word>> words = List.of(new ArrayList<>(), new ArrayList<>());

        int costOf(int set) {
            int sum = 0;
            for (int i = 0; i < 7; i++) {
                sum += (set >> i & 1) * costs[i];
            }
            return sum;
        }

        /** Sets of strokes that are read alike, as walls of one cell. */
        Map<String, Walls> alike(List<Integer> sets) {
            Map<String, Walls> groups = new TreeMap<>();
            for (int set : sets) {
                groups.merge("" + seen[0][set] + seen[1][set], new Walls(BigInteger.ONE, costOf(set), List.of(set)),
                    Walls::and);
            }
            return groups;
        }

        /** The walls of 0, 1, 2 .. cells, each cell one of its sets, that both readers can read. */
        List<Walls> walls(Places east, Places west, List<List<Integer>> cells) {
            Map<Both, Walls> now = new LinkedHashMap<>();
            now.put(new Both(Set.of(Places.START), west.ends), new Walls(BigInteger.ONE, 0, List.of()));
            List<Walls> all = new ArrayList<>();
            all.add(Walls.NO_WALL);
            for (List<Integer> sets : cells) {
                now = longer(now, east, west, alike(sets));
                Walls sum = Walls.NO_WALL;
                for (Map.Entry<Both, Walls> e : now.entrySet()) {
                    boolean isRead = e.getKey().west().contains(Places.START)
                        && e.getKey().east().stream().anyMatch(east.ends::contains);
                    sum = isRead ? sum.and(e.getValue()) : sum;
                }
                all.add(sum);
            }
            return all;
        }

        private static Map<Both, Walls> longer(Map<Both, Walls> now, Places east, Places west, Map<String, Walls> cell) {
            Map<Both, Walls> next = new LinkedHashMap<>();
            for (Map.Entry<Both, Walls> e : now.entrySet()) {
                for (Map.Entry<String, Walls> group : cell.entrySet()) {
                    Set<String> a = east.ahead(e.getKey().east(), group.getKey().charAt(0));
                    Set<String> b = west.back(e.getKey().west(), group.getKey().charAt(1));
                    if (!a.isEmpty() && !b.isEmpty()) {
                        next.merge(new Both(a, b), joined(e.getValue(), group.getValue()), Walls::and);
                    }
                }
            }
            return next;
        }

        private static Walls joined(Walls walls, Walls cell) {
            List<Integer> row = new ArrayList<>(walls.first());
            row.addAll(cell.first());
            return new Walls(walls.many().multiply(cell.many()), walls.cost() + cell.cost(), row);
        }
    }

    /** A text of tables, in pieces that the tape can hold. */
    private static List<String> tables(Random r, Told told) {
        List<String> pieces = new ArrayList<>();
        StringBuilder b = new StringBuilder("mirror ");
        List<Integer> seven = new ArrayList<>(List.of(1, 2, 3, 4, 5, 6, 7));
        java.util.Collections.shuffle(seven, r);
        seven.forEach(b::append);
        for (int i = 0; i < 7; i++) {
            told.costs[i] = r.nextInt(r.nextBoolean() ? 3 : 100);
            b.append(";cost ").append(i + 1).append(' ').append(told.costs[i]);
        }
        pieces.add(b.toString());
        int parted = 2 + r.nextInt(4);
        for (int tongue = 0; tongue < 2; tongue++) {
            pieces.add(letters(r, tongue, parted, seven));
            pieces.add(words(r, tongue, told.words.get(tongue)));
        }
        return pieces;
    }

    /** East's letters on some strokes of the wall, West's, as it sees them, on others. */
    private static String letters(Random r, int tongue, int parted, List<Integer> mirror) {
        StringBuilder b = new StringBuilder();
        int from = tongue == 0 ? 1 : parted;
        int many = tongue == 0 ? parted : 8 - parted;
        for (char letter = 'a'; letter < 'a' + 2 + r.nextInt(4); letter++) {
            Set<Integer> must = new TreeSet<>();
            for (int i = 1 + r.nextInt(2); i > 0; i--) {
                int stroke = from + r.nextInt(many);
                must.add(tongue == 0 ? stroke : mirror.get(stroke - 1));
            }
            b.append(b.length() == 0 ? "" : ";").append(tongue == 0 ? "east " : "west ").append(letter).append(' ');
            must.forEach(b::append);
        }
        return b.toString();
    }

    private static String words(Random r, int tongue, List<Word> words) {
        StringBuilder b = new StringBuilder();
        for (int i = 3 + r.nextInt(6); i > 0; i--) {
            StringBuilder letters = new StringBuilder();
            for (int n = 1 + r.nextInt(1 + r.nextInt(6)); n > 0; n--) {
                letters.append((char) ('a' + r.nextInt(3)));
            }
            words.add(new Word(r.nextInt(2), letters.toString()));
            Word word = words.get(words.size() - 1);
            b.append(b.length() == 0 ? "word " : ";word ").append(tongue == 0 ? "east " : "west ");
            b.append(word.meaning()).append(' ').append(word.letters());
        }
        return b.toString();
    }

    private static TwoWayWall object(List<String> pieces) {
        TwoWayWall x = new TwoWayWall();
        for (String piece : pieces) {
            Bench.type(x, piece);
            due("tables() of '" + piece + "'", x.tables(), piece.split(";").length);
        }
        return x;
    }

    private static void look(TwoWayWall x, Told told) {
        for (int tongue = 0; tongue < 2; tongue++) {
            for (int set = 0; set < 128; set++) {
                int letter = x.reads(tongue, set);
                told.seen[tongue][set] = letter < 0 ? GAP : (char) ('a' + letter);
            }
        }
    }

    private static List<Integer> allBut(int kept, int strokes) {
        List<Integer> sets = new ArrayList<>();
        for (int set = 0; set < 128; set++) {
            if ((set & kept) == (strokes & kept)) {
                sets.add(set);
            }
        }
        return sets;
    }

    private static List<List<Integer>> bareCells(int n) {
        List<List<Integer>> cells = new ArrayList<>();
        for (int i = 0; i < n; i++) {
            cells.add(allBut(0, 0));
        }
        return cells;
    }

    private static void askStories(String run, Random r, Told told, List<String> pieces) {
        TwoWayWall x = object(pieces);
        List<List<Integer>> stories = List.of(new ArrayList<>(), new ArrayList<>());
        for (int tongue = 0; tongue < 2; tongue++) {
            for (int i = r.nextInt(8) == 0 ? 0 : 1 + r.nextInt(4); i > 0; i--) {
                stories.get(tongue).add(r.nextInt(2));
                x.mean(tongue, stories.get(tongue).get(stories.get(tongue).size() - 1));
            }
        }
        List<Walls> walls = told.walls(Places.ofStory(told.words.get(0), stories.get(0)),
            Places.ofStory(told.words.get(1), stories.get(1)), bareCells(16));
        List<Integer> lengths = new ArrayList<>();
        for (int n = 1; n <= 16; n++) {
            Walls due = walls.get(n);
            boolean some = due.many().signum() > 0;
            String at = run + ", stories " + stories + ", " + n + " cells: ";
            x.size(n);
            due(at + "tells()", x.tells(), due.manyAtMost());
            due(at + "price()", x.price(), some ? due.cost() : -1);
            for (int i = 0; i < n; i++) {
                due(at + "first(" + i + ")", x.first(i), some ? due.first().get(i) : -1);
            }
            if (some) {
                lengths.add(n);
            }
        }
        due(run + ": lengths(-1)", x.lengths(-1), lengths.size());
        for (int i = 0; i <= lengths.size(); i++) {
            due(run + ": lengths(" + i + ")", x.lengths(i), i < lengths.size() ? lengths.get(i) : -1);
        }
    }

    /** The first wall of so many cells that says something both ways loses some strokes, and some that it had not. */
    private static void askLost(String run, Random r, Told told, List<String> pieces) {
        Places east = Places.ofWords(told.words.get(0));
        Places west = Places.ofWords(told.words.get(1));
        List<Walls> any = told.walls(east, west, bareCells(16));
        int n = 8 + r.nextInt(9);
        for (int tries = 0; tries < 40 && any.get(n).many().signum() == 0; tries++) {
            n = 8 + r.nextInt(9);
        }
        TwoWayWall x = object(pieces);
        x.size(n);
        int[] lost = new int[n];
        List<List<Integer>> cells = new ArrayList<>();
        boolean much = r.nextInt(3) == 0;
        for (int i = 0; i < n; i++) {
            lost[i] = much ? 127 : r.nextInt(128) | r.nextInt(128);
            int painted = any.get(n).many().signum() > 0 ? any.get(n).first().get(i) : r.nextInt(128);
            cells.add(allBut(127 & ~lost[i], painted));
            x.paint(i, painted & ~(lost[i] & r.nextInt(128)));
            x.lost(i, lost[i]);
        }
        BigInteger all = told.walls(east, west, cells).get(n).many();
        String at = run + ", lost of " + n + " cells: ";
        due(at + "may()", x.may(), all.min(BigInteger.valueOf(TRILLION)).longValue());
        for (int i = 0; i < n; i++) {
            askCell(at, x, i, lost[i], all, oftens(told, east, west, cells, i));
        }
    }

    /** In how many walls each stroke of the cell is there. */
    private static List<BigInteger> oftens(Told told, Places east, Places west, List<List<Integer>> cells, int cell) {
        List<BigInteger> often = new ArrayList<>();
        for (int stroke = 0; stroke < 7; stroke++) {
            int bit = 1 << stroke;
            List<List<Integer>> with = new ArrayList<>(cells);
            with.set(cell, cells.get(cell).stream().filter(set -> (set & bit) != 0).toList());
            often.add(told.walls(east, west, with).get(cells.size()).many());
        }
        return often;
    }

    private static void askCell(String at, TwoWayWall x, int cell, int lost, BigInteger all, List<BigInteger> often) {
        int[] bits = new int[3];
        for (int stroke = 0; stroke < 7; stroke++) {
            BigInteger with = often.get(stroke);
            due(at + "often(" + cell + ", " + (stroke + 1) + ")", x.often(cell, stroke + 1),
                with.min(BigInteger.valueOf(TRILLION)).longValue());
            bits[with.equals(all) ? 0 : with.signum() == 0 ? 1 : 2] |= lost & 1 << stroke;
        }
        for (int what = 0; what < 3; what++) {
            due(at + "sure(" + cell + ", " + what + ")", x.sure(cell, what), all.signum() == 0 ? -1 : bits[what]);
        }
    }

    public static void main(String[] args) {
        int runs = args.length > 0 ? Integer.parseInt(args[0]) : 40;
        for (int seed = 0; seed < runs && wrong < 20; seed++) {
            Random r = new Random(seed);
            Told told = new Told();
            List<String> pieces = tables(r, told);
            look(object(pieces), told);
            askStories("run " + seed, r, told, pieces);
            askStories("run " + seed, r, told, pieces);
            askLost("run " + seed, r, told, pieces);
        }
        System.out.println(asked + " answers, " + found + " above 0, " + full + " the most there can be, " + wrong
            + " not as due");
        if (wrong != 0 || full == 0) {
            System.exit(1);
        }
    }
}
