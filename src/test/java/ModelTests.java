import java.math.BigInteger;
import java.util.ArrayList;
import java.util.Arrays;
import java.util.HashMap;
import java.util.LinkedHashSet;
import java.util.List;
import java.util.Map;
import java.util.Random;
import java.util.Set;
import java.util.TreeMap;
import java.util.regex.Matcher;
import java.util.regex.Pattern;

/** Long rows of calls, beside a slow model that goes through all rows and walls there are. */
public final class ModelTests {
    private static final BigInteger TRILLION = BigInteger.valueOf(1_000_000_000_000L);
    private static final long UNASKED = Long.MIN_VALUE;

    /** What an image keeps; rows of letters are texts, a gap is a dot. */
    private static final class Kept {
        List<Integer> cells = new ArrayList<>(Arrays.asList(0, 0, 0, 0, 0, 0, 0, 0));
        List<Integer> lost = new ArrayList<>(Arrays.asList(0, 0, 0, 0, 0, 0, 0, 0));
        List<TreeMap<Character, int[]>> letters = List.of(new TreeMap<>(), new TreeMap<>());
        List<List<String>> words = List.of(new ArrayList<>(), new ArrayList<>());
        List<StringBuilder> texts = List.of(new StringBuilder(), new StringBuilder());
        List<List<Integer>> stories = List.of(new ArrayList<>(), new ArrayList<>());
        int[] mirror = {1, 2, 3, 4, 5, 6, 7};
        int[] costs = {1, 1, 1, 1, 1, 1, 1};
        List<int[]> yards = new ArrayList<>();

        Kept copy() {
            Kept k = new Kept();
            k.cells = new ArrayList<>(cells);
            k.lost = new ArrayList<>(lost);
            k.letters = List.of(new TreeMap<>(letters.get(0)), new TreeMap<>(letters.get(1)));
            k.words = List.of(new ArrayList<>(words.get(0)), new ArrayList<>(words.get(1)));
            k.texts = List.of(new StringBuilder(texts.get(0)), new StringBuilder(texts.get(1)));
            k.stories = List.of(new ArrayList<>(stories.get(0)), new ArrayList<>(stories.get(1)));
            k.mirror = mirror.clone();
            k.costs = costs.clone();
            k.yards = new ArrayList<>(yards);
            return k;
        }
    }

    /** The document, done as plainly as can be. A word is kept as its meaning's digit and letters. */
    private static final class Slow {
        Kept k = new Kept();
        Map<Integer, Kept> images = new HashMap<>();
        String tape = "";
        int fault = -1;
        int spilt = 0;
        int status = 0;
        Map<Integer, Integer> refused = new HashMap<>();

        long no(int by) {
            refused.merge(by, 1, Integer::sum);
            status = by;
            return by;
        }

        long yes(long answer) {
            status = 0;
            return answer;
        }

        boolean in(long x, long least, long most) {
            return x >= least && x <= most;
        }

        boolean cell(int c) {
            return in(c, 0, k.cells.size() - 1);
        }

        void resize(int n) {
            while (k.cells.size() > n) {
                k.cells.remove(k.cells.size() - 1);
                k.lost.remove(k.lost.size() - 1);
            }
            while (k.cells.size() < n) {
                k.cells.add(0);
                k.lost.add(0);
            }
        }

        char seen(int tongue, int set) {
            int at = set;
            if (tongue == 1) {
                at = 0;
                for (int s = 1; s <= 7; s++) {
                    if ((set & 1 << (s - 1)) != 0) {
                        at += 1 << (k.mirror[s - 1] - 1);
                    }
                }
            }
            for (Map.Entry<Character, int[]> told : k.letters.get(tongue).entrySet()) {
                if ((told.getValue()[0] & ~at) == 0 && (told.getValue()[1] & at) == 0) {
                    return told.getKey();
                }
            }
            return '.';
        }

        String row(int tongue, List<Integer> cells) {
            StringBuilder b = new StringBuilder();
            for (int set : cells) {
                b.append(seen(tongue, set));
            }
            return tongue == 1 ? b.reverse().toString() : b.toString();
        }

        int spokenWords(int tongue, List<Integer> cells) {
            String[] parts = row(tongue, cells).split("\\.", -1);
            for (String part : parts) {
                boolean some = false;
                for (String word : k.words.get(tongue)) {
                    some |= word.substring(1).equals(part);
                }
                if (!some) {
                    return 0;
                }
            }
            return parts.length;
        }

        int cost(int set) {
            int sum = 0;
            for (int s = 0; s < 7; s++) {
                sum += (set >> s) % 2 * k.costs[s];
            }
            return sum;
        }

        List<Integer> setsOf(char east, char west) {
            List<Integer> sets = new ArrayList<>();
            for (int set = 0; set < 128; set++) {
                if (seen(0, set) == east && seen(1, set) == west) {
                    sets.add(set);
                }
            }
            return sets;
        }

        int least(List<Integer> sets) {
            int best = sets.get(0);
            for (int set : sets) {
                if (cost(set) < cost(best)) {
                    best = set;
                }
            }
            return best;
        }

        // Tables.

        private List<String> tokens;
        private List<Integer> places;
        private int at;

        long tables() {
            tokens = new ArrayList<>();
            places = new ArrayList<>();
            Matcher m = Pattern.compile("[a-z]+|[0-9]+|[^ ]", Pattern.DOTALL).matcher(tape);
            while (m.find()) {
                tokens.add(m.group());
                places.add(m.start());
            }
            tokens.add("");
            places.add(tape.length());
            tape = "";
            at = 0;
            Kept before = k.copy();
            int clauses = 0;
            fault = -1;
            while (fault < 0) {
                if (clauses == 24) {
                    fault = places.get(at);
                    break;
                }
                int wrongAt = clause();
                if (wrongAt >= 0) {
                    fault = places.get(wrongAt);
                    break;
                }
                clauses++;
                if (tokens.get(at).isEmpty()) {
                    return yes(clauses);
                }
                if (!tokens.get(at).equals(";")) {
                    fault = places.get(at);
                }
                at++;
            }
            k = before;
            return no(-6);
        }

        private String take() {
            String token = tokens.get(at);
            at = Math.min(at + 1, tokens.size() - 1);
            return token;
        }

        /** The token that is wrong, else -1. */
        private int clause() {
            int start = at;
            String head = take();
            List<String> patterns;
            switch (head) {
                case "east": case "west": patterns = List.of("[a-z]", "[1-7]+"); break;
                case "word": patterns = List.of("east|west", "0*[0-7]", "[a-z]{1,6}"); break;
                case "mirror": patterns = List.of("[1-7]{7}"); break;
                case "cost": patterns = List.of("0*[1-7]", "0*[0-9]{1,2}"); break;
                case "drop": patterns = List.of("east|west", "[a-z]"); break;
                default: return start;
            }
            List<String> got = new ArrayList<>();
            for (String pattern : patterns) {
                int here = at;
                String token = take();
                if (!token.matches(pattern)) {
                    return here;
                }
                boolean row = pattern.startsWith("[1-7]");
                if (row && token.chars().distinct().count() != token.length()) {
                    return here;
                }
                got.add(token);
                if (head.equals("word") && got.size() == 1 && wordsOf(token).size() == 8) {
                    return start;
                }
            }
            switch (head) {
                case "word":
                    wordsOf(got.get(0)).add(Integer.parseInt(got.get(1)) + got.get(2));
                    return -1;
                case "mirror":
                    for (int i = 0; i < 7; i++) {
                        k.mirror[i] = got.get(0).charAt(i) - '0';
                    }
                    return -1;
                case "cost":
                    k.costs[Integer.parseInt(got.get(0)) - 1] = Integer.parseInt(got.get(1));
                    return -1;
                case "drop":
                    k.letters.get(got.get(0).equals("east") ? 0 : 1).remove(got.get(1).charAt(0));
                    return -1;
                default:
                    return not(head.equals("east") ? 0 : 1, got);
            }
        }

        private List<String> wordsOf(String tongue) {
            return k.words.get(tongue.equals("east") ? 0 : 1);
        }

        private int not(int tongue, List<String> got) {
            String none = "";
            if (tokens.get(at).equals("not")) {
                take();
                int here = at;
                none = take();
                String both = none + got.get(1);
                if (!none.matches("[1-7]+") || both.chars().distinct().count() != both.length()) {
                    return here;
                }
            }
            k.letters.get(tongue).put(got.get(0).charAt(0), new int[] {bits(got.get(1)), bits(none)});
            return -1;
        }

        private int bits(String digits) {
            return digits.chars().map(c -> 1 << (c - '1')).sum();
        }

        // Stories.

        Set<String> storyRows(int tongue, int n) {
            Set<String> rows = new LinkedHashSet<>();
            List<Integer> story = k.stories.get(tongue);
            if (story.isEmpty()) {
                rows.add(".".repeat(n));
                return rows;
            }
            rows.add("");
            for (int i = 0; i < story.size(); i++) {
                Set<String> longer = new LinkedHashSet<>();
                for (String row : rows) {
                    for (String word : k.words.get(tongue)) {
                        if (word.charAt(0) - '0' == story.get(i)) {
                            longer.add(row + (i == 0 ? "" : ".") + word.substring(1));
                        }
                    }
                }
                rows = longer;
            }
            rows.removeIf(row -> row.length() != n);
            return rows;
        }

        BigInteger tellings;
        List<Integer> firstWall;

        /** False, if that would be too much work. */
        boolean findTellings(int n) {
            Set<String> east = storyRows(0, n);
            Set<String> west = storyRows(1, n);
            tellings = BigInteger.ZERO;
            firstWall = null;
            if ((long) east.size() * west.size() > 40_000) {
                return false;
            }
            Map<String, List<Integer>> sets = new HashMap<>();
            for (String e : east) {
                for (String w : west) {
                    BigInteger product = BigInteger.ONE;
                    List<Integer> wall = new ArrayList<>();
                    for (int c = 0; c < n && product.signum() > 0; c++) {
                        List<Integer> can = sets.computeIfAbsent(e.charAt(c) + "" + w.charAt(n - 1 - c),
                            both -> setsOf(both.charAt(0), both.charAt(1)));
                        product = product.multiply(BigInteger.valueOf(can.size()));
                        if (!can.isEmpty()) {
                            wall.add(least(can));
                        }
                    }
                    tellings = tellings.add(product);
                    if (product.signum() > 0 && isAhead(wall)) {
                        firstWall = wall;
                    }
                }
            }
            return true;
        }

        private boolean isAhead(List<Integer> wall) {
            if (firstWall == null || price(wall) != price(firstWall)) {
                return firstWall == null || price(wall) < price(firstWall);
            }
            for (int i = 0; i < wall.size(); i++) {
                if (!wall.get(i).equals(firstWall.get(i))) {
                    return wall.get(i) < firstWall.get(i);
                }
            }
            return false;
        }

        int price(List<Integer> wall) {
            return wall.stream().mapToInt(this::cost).sum();
        }

        // Lost strokes.

        List<List<Integer>> walls;

        boolean findWalls() {
            long many = 1;
            for (int l : k.lost) {
                many = Math.min(1 << 20, many << Integer.bitCount(l));
            }
            walls = new ArrayList<>();
            if (many > 1 << 13) {
                return false;
            }
            grow(new ArrayList<>());
            return true;
        }

        private void grow(List<Integer> wall) {
            int c = wall.size();
            if (c == k.cells.size()) {
                if (spokenWords(0, wall) > 0 && spokenWords(1, wall) > 0) {
                    walls.add(new ArrayList<>(wall));
                }
                return;
            }
            for (int set = 0; set < 128; set++) {
                if (((set ^ k.cells.get(c)) & ~k.lost.get(c)) == 0) {
                    wall.add(set);
                    grow(wall);
                    wall.remove(c);
                }
            }
        }

        long often(int c, int stroke) {
            return walls.stream().filter(wall -> (wall.get(c) >> (stroke - 1)) % 2 == 1).count();
        }

        // Near.

        int[] nearCell(int i) {
            int n = k.texts.get(0).length();
            int[] best = {9, 0, 0, 0};
            for (int set = 0; set < 128; set++) {
                int wrong = seen(0, set) == k.texts.get(0).charAt(i) ? 0 : 1;
                wrong += seen(1, set) == k.texts.get(1).charAt(n - 1 - i) ? 0 : 1;
                int ways = wrong == best[0] ? best[3] + 1 : wrong < best[0] ? 1 : best[3];
                if (wrong < best[0] || wrong == best[0] && cost(set) < best[1]) {
                    best = new int[] {wrong, cost(set), set, ways};
                } else {
                    best[3] = ways;
                }
            }
            return best;
        }

        // Yards.

        int letting(int bits) {
            int rent = 0;
            for (int a = 0; a < 31; a++) {
                if ((bits >> a & 1) != 0) {
                    if (a >= k.yards.size()) {
                        return -1;
                    }
                    rent += k.yards.get(a)[4];
                    for (int b = 0; b < a; b++) {
                        if ((bits >> b & 1) != 0 && common(k.yards.get(a), k.yards.get(b))) {
                            return -1;
                        }
                    }
                }
            }
            return bits < 0 ? -1 : rent;
        }

        private boolean common(int[] a, int[] b) {
            for (int cell = 0; cell < 16; cell++) {
                for (int week = 0; week < 52; week++) {
                    boolean inA = in(cell, a[0], a[1]) && in(week, a[2], a[3]);
                    if (inA && in(cell, b[0], b[1]) && in(week, b[2], b[3])) {
                        return true;
                    }
                }
            }
            return false;
        }

        // Calls.

        long answer(String call, int[] a) {
            int n = k.cells.size();
            switch (call) {
                case "size":
                    if (!in(a[0], 1, 16)) {
                        return no(-1);
                    }
                    resize(a[0]);
                    return yes(n);
                case "paint": return !cell(a[0]) || !in(a[1], 0, 127) ? no(-1) : yes(k.cells.set(a[0], a[1]));
                case "of": return cell(a[0]) ? k.cells.get(a[0]) : -1;
                case "feed": return feed(a);
                case "end":
                    if (!in(a[0], 0, tape.length())) {
                        return -1;
                    }
                    tape = tape.substring(0, a[0]);
                    return a[0];
                case "row": return rowOfTape();
                case "spilt": return spilt;
                case "tables": return tables();
                case "fault": return fault;
                case "letter":
                    if (!in(a[0], 0, 1) || !in(a[1], 0, 25) || !in(a[2], 0, 1)) {
                        return -1;
                    }
                    int[] told = k.letters.get(a[0]).get((char) ('a' + a[1]));
                    return told == null ? -1 : told[a[2]];
                case "word":
                    if (!in(a[0], 0, 1) || !in(a[1], 0, k.words.get(a[0]).size() - 1)) {
                        return -1;
                    }
                    String word = k.words.get(a[0]).get(a[1]);
                    return a[2] == 0 ? word.charAt(0) - '0' : a[2] == 1 ? word.length() - 1
                        : in(a[2], 2, word.length()) ? word.charAt(a[2] - 1) - 'a' : -1;
                case "reads": return in(a[0], 0, 1) && in(a[1], 0, 127) ? number(seen(a[0], a[1])) : -1;
                case "read": return in(a[0], 0, 1) && cell(a[1]) ? number(row(a[0], k.cells).charAt(a[1])) : -1;
                case "spoken": return in(a[0], 0, 1) ? spokenWords(a[0], k.cells) : -1;
                default: return answerMore(call, a);
            }
        }

        private long number(char c) {
            return c == '.' ? -1 : c - 'a';
        }

        private char sign(int letter) {
            return letter == -1 ? '.' : (char) ('a' + letter);
        }

        private long feed(int[] a) {
            if (tape.length() + 20 > 400) {
                return -1;
            }
            StringBuilder b = new StringBuilder(tape);
            for (int x : a) {
                for (int shift = 24; shift >= 0; shift -= 8) {
                    b.append((char) (x >> shift & 255));
                }
            }
            tape = b.toString();
            return tape.length();
        }

        private long rowOfTape() {
            if (tape.isEmpty()) {
                return no(-6);
            }
            int n = Math.min(16, tape.length());
            resize(n);
            for (int i = 0; i < n; i++) {
                if (tape.charAt(i) < 128) {
                    k.cells.set(i, (int) tape.charAt(i));
                }
            }
            spilt = tape.length() - n;
            tape = "";
            return yes(n);
        }

        private long answerMore(String call, int[] a) {
            switch (call) {
                case "pair":
                    if (!in(a[0], -1, 25) || !in(a[1], -1, 25) || !in(a[2], 0, 1)) {
                        return -1;
                    }
                    List<Integer> sets = setsOf(sign(a[0]), sign(a[1]));
                    return a[2] == 0 ? sets.size() : sets.isEmpty() ? -1 : least(sets);
                case "partners":
                    if (!in(a[0], -1, 25)) {
                        return -1;
                    }
                    int bits = 0;
                    for (int set = 0; set < 128; set++) {
                        if (seen(0, set) == sign(a[0])) {
                            bits |= 1 << (seen(1, set) == '.' ? 26 : seen(1, set) - 'a');
                        }
                    }
                    return bits;
                case "pairs":
                    Set<String> both = new LinkedHashSet<>();
                    for (int set = 0; set < 128; set++) {
                        both.add(seen(0, set) + "" + seen(1, set));
                    }
                    both.removeIf(p -> p.contains("."));
                    return both.size();
                case "say":
                    if (!in(a[0], 0, 1) || !in(a[1], -1, 25)) {
                        return no(-1);
                    }
                    return k.texts.get(a[0]).length() == 16 ? no(-5)
                        : yes(k.texts.get(a[0]).append(sign(a[1])).length());
                case "hush":
                    if (!in(a[0], 0, 1)) {
                        return no(-1);
                    }
                    int was = k.texts.get(a[0]).length();
                    k.texts.get(a[0]).setLength(0);
                    return yes(was);
                case "near": return near(a[0]);
                case "nearAt":
                    int n = k.texts.get(0).length();
                    return n == k.texts.get(1).length() && in(a[0], 0, n - 1) ? nearCell(a[0])[2] : -1;
                case "mean":
                    if (!in(a[0], 0, 1) || !in(a[1], 0, 7)) {
                        return no(-1);
                    }
                    if (k.stories.get(a[0]).size() == 4) {
                        return no(-5);
                    }
                    k.stories.get(a[0]).add(a[1]);
                    return yes(k.stories.get(a[0]).size());
                case "forget":
                    if (!in(a[0], 0, 1)) {
                        return no(-1);
                    }
                    int many = k.stories.get(a[0]).size();
                    k.stories.get(a[0]).clear();
                    return yes(many);
                default: return answerRest(call, a);
            }
        }

        private long near(int what) {
            int n = k.texts.get(0).length();
            if (n != k.texts.get(1).length() || !in(what, 0, 2)) {
                return -1;
            }
            BigInteger ways = BigInteger.ONE;
            int wrong = 0;
            int cost = 0;
            for (int i = 0; i < n; i++) {
                int[] best = nearCell(i);
                wrong += best[0];
                cost += best[1];
                ways = ways.multiply(BigInteger.valueOf(best[3]));
            }
            return what == 0 ? wrong : what == 1 ? cost : ways.min(BigInteger.valueOf(1_000_000_000)).longValue();
        }

        private long answerRest(String call, int[] a) {
            int n = k.cells.size();
            switch (call) {
                case "tells": return findTellings(n) ? tellings.min(TRILLION).longValue() : UNASKED;
                case "price": return !findTellings(n) ? UNASKED : firstWall == null ? -1 : price(firstWall);
                case "first":
                    return !findTellings(n) ? UNASKED : firstWall == null || !cell(a[0]) ? -1 : firstWall.get(a[0]);
                case "lengths":
                    List<Integer> with = new ArrayList<>();
                    for (int i = 1; i <= 16; i++) {
                        if (!findTellings(i)) {
                            return UNASKED;
                        }
                        if (firstWall != null) {
                            with.add(i);
                        }
                    }
                    return a[0] == -1 ? with.size() : in(a[0], 0, with.size() - 1) ? with.get(a[0]) : -1;
                case "lost": return !cell(a[0]) || !in(a[1], 0, 127) ? no(-1) : yes(k.lost.set(a[0], a[1]));
                case "may": return findWalls() ? walls.size() : UNASKED;
                case "sure":
                    if (!cell(a[0]) || !in(a[1], 0, 2)) {
                        return -1;
                    }
                    return findWalls() ? sureBits(a[0], a[1]) : UNASKED;
                case "often":
                    if (!cell(a[0]) || !in(a[1], 1, 7)) {
                        return -1;
                    }
                    return findWalls() ? often(a[0], a[1]) : UNASKED;
                case "yard":
                    if (!cell(a[0]) || !cell(a[1]) || a[0] > a[1] || !in(a[2], 0, 51) || !in(a[3], a[2], 51)
                        || !in(a[4], 0, 999)) {
                        return no(-1);
                    }
                    if (k.yards.size() == 10) {
                        return no(-5);
                    }
                    k.yards.add(a.clone());
                    return yes(k.yards.size() - 1);
                case "drop":
                    if (!in(a[0], 0, k.yards.size() - 1)) {
                        return no(-2);
                    }
                    k.yards.remove(a[0]);
                    return yes(k.yards.size());
                case "letting": return letting(a[0]);
                case "best": return best(a[0]);
                case "rain": return !in(a[0], 0, 1_000_000) || !in(a[1], 0, 100) ? no(-1) : yes(rain(a[0], a[1]));
                default: return answerLast(call, a);
            }
        }

        private long sureBits(int c, int what) {
            if (walls.isEmpty()) {
                return -1;
            }
            int bits = 0;
            for (int s = 1; s <= 7; s++) {
                long with = often(c, s);
                int kind = with == walls.size() ? 0 : with == 0 ? 1 : 2;
                if ((k.lost.get(c) >> (s - 1)) % 2 == 1 && kind == what) {
                    bits |= 1 << (s - 1);
                }
            }
            return bits;
        }

        private long best(int what) {
            int most = 0;
            for (int bits = 0; bits < 1 << k.yards.size(); bits++) {
                most = Math.max(most, letting(bits));
            }
            int lowest = -1;
            int many = 0;
            for (int bits = 0; bits < 1 << k.yards.size(); bits++) {
                if (letting(bits) == most) {
                    lowest = lowest < 0 ? bits : lowest;
                    many++;
                }
            }
            return what == 0 ? most : what == 1 ? lowest : what == 2 ? many : -1;
        }

        private int rain(int seed, int hard) {
            long s = seed;
            int off = 0;
            for (int c = 0; c < k.cells.size(); c++) {
                for (int bit = 1; bit < 128; bit *= 2) {
                    if ((k.cells.get(c) & bit) != 0) {
                        s = (s * 1103 + 12345) % 1_000_003;
                        if (s % 100 < hard) {
                            k.cells.set(c, k.cells.get(c) - bit);
                            off++;
                        }
                    }
                }
            }
            return off;
        }

        private long answerLast(String call, int[] a) {
            switch (call) {
                case "image":
                    if (!in(a[0], 0, 1)) {
                        return no(-1);
                    }
                    images.put(a[0], k.copy());
                    return yes(0);
                case "back":
                    if (!in(a[0], 0, 1)) {
                        return no(-1);
                    }
                    if (!images.containsKey(a[0])) {
                        return no(-2);
                    }
                    k = images.get(a[0]).copy();
                    return yes(0);
                case "status": return status;
                case "count":
                    List<Integer> counts = new ArrayList<>();
                    counts.add(k.cells.size());
                    k.letters.forEach(x -> counts.add(x.size()));
                    k.words.forEach(x -> counts.add(x.size()));
                    k.texts.forEach(x -> counts.add(x.length()));
                    k.stories.forEach(x -> counts.add(x.size()));
                    counts.add(k.yards.size());
                    counts.add(tape.length());
                    for (int by : new int[] {-1, -2, -5, -6}) {
                        counts.add(refused.getOrDefault(by, 0));
                    }
                    Arrays.stream(k.mirror).forEach(counts::add);
                    Arrays.stream(k.costs).forEach(counts::add);
                    return in(a[0], 0, counts.size() - 1) ? counts.get(a[0]) : -1;
                default: throw new IllegalArgumentException(call);
            }
        }
    }

    private static long ask(TwoWayWall x, String call, int[] a) {
        switch (call) {
            case "size": return x.size(a[0]);
            case "paint": return x.paint(a[0], a[1]);
            case "of": return x.of(a[0]);
            case "feed": return x.feed(a[0], a[1], a[2], a[3], a[4]);
            case "end": return x.end(a[0]);
            case "row": return x.row();
            case "spilt": return x.spilt();
            case "tables": return x.tables();
            case "fault": return x.fault();
            case "letter": return x.letter(a[0], a[1], a[2]);
            case "word": return x.word(a[0], a[1], a[2]);
            case "reads": return x.reads(a[0], a[1]);
            case "read": return x.read(a[0], a[1]);
            case "spoken": return x.spoken(a[0]);
            case "pair": return x.pair(a[0], a[1], a[2]);
            case "partners": return x.partners(a[0]);
            case "pairs": return x.pairs();
            case "say": return x.say(a[0], a[1]);
            case "hush": return x.hush(a[0]);
            case "near": return x.near(a[0]);
            case "nearAt": return x.nearAt(a[0]);
            case "mean": return x.mean(a[0], a[1]);
            case "forget": return x.forget(a[0]);
            case "tells": return x.tells();
            case "price": return x.price();
            case "first": return x.first(a[0]);
            case "lengths": return x.lengths(a[0]);
            case "lost": return x.lost(a[0], a[1]);
            case "may": return x.may();
            case "sure": return x.sure(a[0], a[1]);
            case "often": return x.often(a[0], a[1]);
            case "yard": return x.yard(a[0], a[1], a[2], a[3], a[4]);
            case "drop": return x.drop(a[0]);
            case "letting": return x.letting(a[0]);
            case "best": return x.best(a[0]);
            case "rain": return x.rain(a[0], a[1]);
            case "image": return x.image(a[0]);
            case "back": return x.back(a[0]);
            case "count": return x.count(a[0]);
            case "status": return x.status();
            default: throw new IllegalArgumentException(call);
        }
    }

    private static final class NotAsDue extends RuntimeException {
    }

    /** One row of calls on a new object. */
    private static final class Run {
        final Random r;
        final TwoWayWall x = new TwoWayWall();
        final Slow slow = new Slow();
        final List<String> log = new ArrayList<>();
        int asked;
        int answered;

        Run(long seed) {
            r = new Random(seed);
        }

        void call(String call, int... a) {
            long want = slow.answer(call, a);
            long got = ask(x, call, a);
            asked++;
            log.add(call + Arrays.toString(a) + " = " + got);
            if (want == UNASKED) {
                return;
            }
            answered++;
            if (got != want) {
                System.out.println(call + Arrays.toString(a) + " answered " + got + ", due is " + want);
                System.out.println("  behind " + log);
                throw new NotAsDue();
            }
        }

        /** Mostly low .. high, now and then beyond it. */
        int some(int low, int high) {
            int luck = r.nextInt(40);
            if (luck == 0) {
                return high + 1;
            }
            if (luck == 1) {
                return low - 1;
            }
            return luck == 2 && r.nextInt(5) == 0 ? r.nextInt() : low + r.nextInt(high - low + 1);
        }

        void type(String text) {
            call("end", 0);
            for (int from = 0; from < text.length(); from += 20) {
                int[] a = new int[5];
                for (int i = 0; i < 20; i++) {
                    int sign = from + i < text.length() ? text.charAt(from + i) : r.nextInt(256);
                    a[i / 4] = a[i / 4] << 8 | sign;
                }
                call("feed", a);
            }
            call("end", text.length());
        }

        String strokes(int most) {
            List<Integer> seven = new ArrayList<>(List.of(1, 2, 3, 4, 5, 6, 7));
            java.util.Collections.shuffle(seven, r);
            StringBuilder b = new StringBuilder();
            for (int i = 0; i < most; i++) {
                b.append(seven.get(i));
            }
            return b.toString();
        }

        char letter() {
            return (char) ('a' + r.nextInt(r.nextInt(8) == 0 ? 26 : 3));
        }

        String word() {
            StringBuilder b = new StringBuilder();
            int length = 1 + r.nextInt(r.nextInt(4) == 0 ? 6 : 2);
            for (int i = 0; i < length; i++) {
                b.append(letter());
            }
            return b.toString();
        }

        String blanks() {
            return " ".repeat(1 + (r.nextInt(6) == 0 ? r.nextInt(3) : 0));
        }

        String clause() {
            String tongue = r.nextBoolean() ? "east" : "west";
            switch (r.nextInt(12)) {
                case 0: return "mirror" + blanks() + strokes(7);
                case 1: return "cost " + (1 + r.nextInt(7)) + blanks() + r.nextInt(r.nextBoolean() ? 4 : 100);
                case 2: return "drop " + tongue + blanks() + letter();
                case 3: case 4: case 5: case 6:
                    return "word " + tongue + blanks() + r.nextInt(r.nextInt(6) == 0 ? 8 : 2) + blanks() + word();
                default:
                    String row = strokes(7);
                    int must = 1 + r.nextInt(2);
                    int none = r.nextInt(3);
                    String not = none == 0 ? "" : blanks() + "not " + row.substring(must, must + none);
                    return tongue + blanks() + letter() + blanks() + row.substring(0, must) + not;
            }
        }

        String spoil(String text) {
            int at = r.nextInt(text.length() + 1);
            String[] bits = {"", " ", ";", "not", "a", "1", "9", "0", "east", ".", "\t", "\u00fc", "word west 1 a"};
            String bit = bits[r.nextInt(bits.length)];
            int until = Math.min(text.length(), at + r.nextInt(3));
            return text.substring(0, at) + bit + text.substring(until);
        }

        void tables(int clauses, boolean spoilt) {
            StringBuilder b = new StringBuilder(clause());
            for (int i = 1; i < clauses; i++) {
                String next = clause();
                if (b.length() + next.length() < 370) {
                    b.append(r.nextInt(5) == 0 ? " ; " : ";").append(next);
                }
            }
            type(spoilt ? spoil(b.toString()) : b.toString());
            call("tables");
            call("fault");
        }

        void change() {
            switch (r.nextInt(16)) {
                case 0: call("size", some(1, r.nextInt(3) == 0 ? 16 : 5)); break;
                case 1: case 2: call("paint", some(0, slow.k.cells.size() - 1), some(0, 127)); break;
                case 3:
                    type(r.ints(1 + r.nextInt(r.nextInt(4) == 0 ? 30 : 6), 0, 140).collect(StringBuilder::new,
                        (b, c) -> b.append((char) c), StringBuilder::append).toString());
                    call("row");
                    break;
                case 4: case 5: tables(1 + r.nextInt(6), r.nextInt(3) == 0); break;
                case 6: case 7: call("say", some(0, 1), some(-1, 3)); break;
                case 8: call("hush", some(0, 1)); break;
                case 9: call("mean", some(0, 1), some(0, 1)); break;
                case 10: call("forget", some(0, 1)); break;
                case 11: call("lost", some(0, slow.k.cells.size() - 1), some(0, 127) & some(0, 127)); break;
                case 12:
                    int from = some(0, slow.k.cells.size() - 1);
                    int week = some(0, 51);
                    call("yard", from, from + r.nextInt(3), week, week + r.nextInt(20), some(0, r.nextBoolean() ? 3 : 999));
                    break;
                case 13: call("drop", some(0, 9)); break;
                case 14: call("rain", some(0, 1_000_000), some(0, 100)); break;
                default: call(r.nextBoolean() ? "image" : "back", some(0, 1)); break;
            }
        }

        void look() {
            int n = slow.k.cells.size();
            switch (r.nextInt(26)) {
                case 0: call("of", some(0, n - 1)); break;
                case 1: call("row"); break;
                case 2: call("spilt"); break;
                case 3: call("tables"); break;
                case 4: call("fault"); break;
                case 5: call("letter", some(0, 1), some(0, 3), some(0, 1)); break;
                case 6: call("word", some(0, 1), some(0, 7), some(0, 7)); break;
                case 7: call("reads", some(0, 1), some(0, 127)); break;
                case 8: call("read", some(0, 1), some(0, n - 1)); break;
                case 9: call("spoken", some(0, 1)); break;
                case 10: call("pair", some(-1, 3), some(-1, 3), some(0, 1)); break;
                case 11: call("partners", some(-1, 3)); break;
                case 12: call("pairs"); break;
                case 13: call("near", some(0, 2)); break;
                case 14: call("nearAt", some(0, 3)); break;
                case 15: call("tells"); break;
                case 16: call("price"); break;
                case 17: call("first", some(0, n - 1)); break;
                case 18: call("lengths", some(-1, 2)); break;
                case 19: call("may"); break;
                case 20: call("sure", some(0, n - 1), some(0, 2)); break;
                case 21: call("often", some(0, n - 1), some(1, 7)); break;
                case 22: call("letting", r.nextInt(1 << Math.min(10, slow.k.yards.size()) + 1) - 1); break;
                case 23: call("best", some(0, 2)); break;
                case 24: call("count", some(0, 28)); break;
                default: call("status"); break;
            }
        }

        String sentence(int tongue) {
            StringBuilder b = new StringBuilder();
            List<String> words = slow.k.words.get(tongue);
            int length = 1 + r.nextInt(5);
            while (!words.isEmpty() && b.length() < length) {
                b.append(b.length() > 0 ? "." : "").append(words.get(r.nextInt(words.size())).substring(1));
            }
            return b.length() > 16 ? b.substring(0, 16) : b.toString();
        }

        /** Paints walls that say something both ways, which blind paint would seldom do. */
        void paintWords() {
            String east = sentence(0);
            String west = sentence(1);
            for (int i = 0; i < 50 && west.length() != east.length(); i++) {
                west = sentence(1);
                east = sentence(0);
            }
            int n = Math.min(east.length(), west.length());
            if (n == 0) {
                return;
            }
            call("size", n);
            for (int i = 0; i < n; i++) {
                List<Integer> can = slow.setsOf(east.charAt(i), west.charAt(n - 1 - i));
                if (!can.isEmpty()) {
                    call("paint", i, can.get(r.nextInt(can.size())));
                    int few = r.nextInt(128) & r.nextInt(128);
                    call("lost", i, n < 4 ? few | r.nextInt(128) & r.nextInt(128) : few);
                    call("paint", i, slow.k.cells.get(i) ^ few & r.nextInt(128));
                }
            }
            call("spoken", 0);
            call("spoken", 1);
            call("may");
            for (int i = 0; i < n; i++) {
                call("sure", i, r.nextInt(3));
                call("often", i, 1 + r.nextInt(7));
            }
        }

        /** Texts as long as each other, of letters that are told for the most part. */
        void texts() {
            int n = r.nextInt(r.nextInt(4) == 0 ? 17 : 5);
            for (int tongue = 0; tongue < 2; tongue++) {
                call("hush", tongue);
                for (int i = 0; i < n; i++) {
                    call("say", tongue, r.nextInt(4) - 1);
                }
            }
            for (int what = 0; what < 3; what++) {
                call("near", what);
            }
            for (int i = 0; i < n; i++) {
                call("nearAt", i);
            }
        }

        void yards() {
            call("size", 8 + r.nextInt(9));
            for (int i = r.nextInt(10); i >= 0; i--) {
                int from = r.nextInt(8);
                int week = r.nextInt(40);
                call("yard", from, from + r.nextInt(4), week, week + r.nextInt(12), r.nextInt(4) * 10);
            }
            for (int what = 0; what < 3; what++) {
                call("best", what);
            }
            for (int i = 0; i < 5; i++) {
                call("letting", r.nextInt(1 << slow.k.yards.size()) & r.nextInt(1024));
            }
            for (int i = r.nextInt(5); i > 0; i--) {
                call("drop", r.nextInt(8));
            }
        }

        /** Letters of one tongue on some strokes, of the other on others: they go together well. */
        void tablesThatFit() {
            String row = strokes(7);
            int parted = 3 + r.nextInt(2);
            StringBuilder b = new StringBuilder("mirror " + (r.nextBoolean() ? "1234567" : strokes(7)));
            for (int letter = 0; letter < 3; letter++) {
                b.append(";east ").append((char) ('a' + letter)).append(' ').append(row.charAt(letter));
                if (parted + letter < 7) {
                    b.append(";west ").append((char) ('a' + letter)).append(' ').append(row.charAt(parted + letter));
                }
            }
            for (int i = 0; i < 6; i++) {
                b.append(i % 2 == 0 ? ";word east " : ";word west ").append(r.nextInt(2)).append(' ').append(word());
            }
            b.append(";cost 1 ").append(r.nextInt(5)).append(";cost 2 ").append(r.nextInt(5));
            type(b.toString());
            call("tables");
        }

        /** Words until a tongue is full or nearly so, then texts of words that are spoilt. */
        void crowd() {
            String tongue = r.nextBoolean() ? "east" : "west";
            StringBuilder b = new StringBuilder("cost 1 1");
            for (int i = slow.wordsOf(tongue).size(); i < 8 - r.nextInt(2); i++) {
                b.append(";word ").append(tongue).append(" 1 ").append(word());
            }
            type(b.toString());
            call("tables");
            for (int i = 0; i < 5; i++) {
                String text = "cost 2 2;word " + tongue + blanks() + "0 " + word() + ";" + clause() + ";word east 1 a";
                type(r.nextInt(3) > 0 ? spoil(text) : text);
                call("tables");
                call("fault");
            }
        }

        void story() {
            for (int tongue = 0; tongue < 2; tongue++) {
                call("forget", tongue);
                int meanings = r.nextInt(4);
                for (int i = 0; i < meanings; i++) {
                    call("mean", tongue, r.nextInt(2));
                }
            }
            call("lengths", -1);
            call("lengths", 0);
            if (slow.findTellings(1)) {
                int n = (int) slow.answer("lengths", new int[] {r.nextInt(3)});
                call("size", n < 1 ? 1 + r.nextInt(16) : n);
            }
            call("tells");
            call("price");
            for (int i = 0; i < slow.k.cells.size(); i++) {
                call("first", i);
            }
        }

        /** Whether all answers were as due; the first that is not ends the run. */
        boolean goesWell() {
            try {
                go();
                return true;
            } catch (NotAsDue end) {
                return false;
            }
        }

        private void go() {
            if (r.nextInt(3) > 0) {
                tablesThatFit();
            } else {
                tables(6 + r.nextInt(10), r.nextInt(8) == 0);
            }
            for (int step = 0; step < 60 && asked < 430; step++) {
                int luck = r.nextInt(12);
                if (luck == 0) {
                    paintWords();
                } else if (luck == 1) {
                    story();
                } else if (luck == 2 && r.nextInt(3) == 0) {
                    texts();
                } else if (luck == 3 && r.nextInt(3) == 0) {
                    yards();
                } else if (luck == 3 && r.nextInt(6) == 0) {
                    crowd();
                } else if (luck < 6) {
                    change();
                } else {
                    look();
                }
            }
        }
    }

    public static void main(String[] args) {
        int runs = args.length > 0 ? Integer.parseInt(args[0]) : 400;
        int failed = 0;
        long asked = 0;
        long answered = 0;
        Map<String, Integer> told = new TreeMap<>();
        for (int seed = 0; seed < runs && failed < 5; seed++) {
            Run run = new Run(seed);
            if (!run.goesWell()) {
                System.out.println("  in the run of seed " + seed);
                failed++;
            }
            asked += run.asked;
            answered += run.answered;
            for (String line : run.log) {
                if (!line.endsWith("= 0") && !line.endsWith("= -1")) {
                    told.merge(line.substring(0, line.indexOf('[')), 1, Integer::sum);
                }
            }
        }
        System.out.println(asked + " calls, " + answered + " beside the model, " + failed + " runs not as due");
        System.out.println("answers that are not 0 or -1: " + told);
        if (failed != 0) {
            System.exit(1);
        }
    }
}
