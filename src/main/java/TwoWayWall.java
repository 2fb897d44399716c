import java.util.Arrays;

/**
 * A wall of cells with strokes that is read in one tongue by who walks east and in another by who
 * walks west. The promises that the comments name are those of the project's document.
 */
public final class TwoWayWall {
    public static final int NONE = -1;

    private static final int BAD_NUMBER = -1;
    private static final int NO_SUCH = -2;
    private static final int NO_ROOM = -5;
    private static final int BAD_TEXT = -6;

    private static final int EAST = 0;
    private static final int WEST = 1;
    private static final int FIRST_CELLS = 8;
    private static final int MOST_CELLS = 16;
    private static final int STROKES = 7;
    private static final int ALL_STROKES = 127;
    private static final int SETS = 128;
    private static final int LETTERS = 26;
    /** Inside, a gap stands behind the letters, so that tables can have a place for it. */
    private static final int GAP = 26;
    private static final int KINDS = 27;
    private static final int MOST_WORDS = 8;
    private static final int LONGEST_WORD = 6;
    private static final int MEANINGS = 8;
    private static final int LONGEST_STORY = 4;
    private static final int MOST_COST = 99;
    private static final int MOST_BYTES = 400;
    private static final int FED_BYTES = 20;
    private static final int MOST_CLAUSES = 24;
    private static final int MOST_YARDS = 10;
    private static final int LETTINGS = 1024;
    private static final int LAST_WEEK = 51;
    private static final int MOST_RENT = 999;
    private static final int MOST_SEED = 1_000_000;
    private static final int HARDEST = 100;
    private static final long MOST_WALLS = 1_000_000_000_000L;
    private static final long MOST_NEAR = 1_000_000_000L;
    private static final int BEYOND_COST = 1_000_000;

    private final State now = new State();
    /** Tables are told here first, so that a text that can't be leaves all as it was. */
    private final State draft = new State();
    private final State[] images = new State[2];
    private final Tape tape = new Tape();
    private final TableReader tableReader = new TableReader(tape, draft);
    private final Readings readings = new Readings();
    private final PairTable allPairs = new PairTable();
    private final PairTable cellPairs = new PairTable();
    private final Nearest nearest = new Nearest();
    private final Crossing crossing = new Crossing();
    /** Row n tells of the tellings of n cells; right as long as tellingsKnown. */
    private final Layer tellings = new Layer(MOST_CELLS + 1);
    /** Row 0 tells of the walls that the latest search for lost strokes found. */
    private final Layer found = new Layer(1);
    private final int[] rents = new int[LETTINGS];
    private final int[] refused = new int[4];
    private boolean tellingsKnown;
    private int faultPlace = NONE;
    private int spiltBytes;
    private int refusedBy;

    public TwoWayWall() {
        renewReadings();
    }

    // The wall and the tape: promises 2 to 8.

    public int size(int n) {
        if (n < 1 || n > MOST_CELLS) {
            return refuse(BAD_NUMBER);
        }
        int were = now.cells;
        now.resize(n);
        return grant(were);
    }

    public int paint(int cell, int strokes) {
        if (!now.hasCell(cell) || !isSet(strokes)) {
            return refuse(BAD_NUMBER);
        }
        int were = now.painted[cell];
        now.painted[cell] = strokes;
        return grant(were);
    }

    public int of(int cell) {
        return now.hasCell(cell) ? now.painted[cell] : NONE;
    }

    public int feed(int a, int b, int c, int d, int e) {
        if (tape.length + FED_BYTES > MOST_BYTES) {
            return NONE;
        }
        tape.append(a);
        tape.append(b);
        tape.append(c);
        tape.append(d);
        tape.append(e);
        return tape.length;
    }

    public int end(int n) {
        if (n < 0 || n > tape.length) {
            return NONE;
        }
        tape.length = n;
        return n;
    }

    public int row() {
        if (tape.length == 0) {
            return refuse(BAD_TEXT);
        }
        int n = Math.min(tape.length, MOST_CELLS);
        now.resize(n);
        for (int cell = 0; cell < n; cell++) {
            if (isSet(tape.bytes[cell])) {
                now.painted[cell] = tape.bytes[cell];
            }
        }
        spiltBytes = tape.length - n;
        tape.length = 0;
        return grant(n);
    }

    public int spilt() {
        return spiltBytes;
    }

    // Tables and what they told: promises 9 to 12.

    public int tables() {
        draft.copyFrom(now);
        int clauses = tableReader.tell();
        faultPlace = tableReader.faultPlace;
        tape.length = 0;
        if (clauses == NONE) {
            return refuse(BAD_TEXT);
        }
        now.copyFrom(draft);
        renewReadings();
        return grant(clauses);
    }

    public int fault() {
        return faultPlace;
    }

    public int letter(int tongue, int letter, int what) {
        if (!isTongue(tongue) || !isLetter(letter) || !now.tongue(tongue).isTold(letter)) {
            return NONE;
        }
        if (what == 0) {
            return now.tongue(tongue).must[letter];
        }
        return what == 1 ? now.tongue(tongue).mustNot[letter] : NONE;
    }

    public int word(int tongue, int word, int what) {
        if (!isTongue(tongue) || word < 0 || word >= now.tongue(tongue).words) {
            return NONE;
        }
        Tongue told = now.tongue(tongue);
        if (what == 0) {
            return told.meanings[word];
        }
        if (what == 1) {
            return told.wordLengths[word];
        }
        if (what < 2 || what - 2 >= told.wordLengths[word]) {
            return NONE;
        }
        return told.letterOf(word, what - 2);
    }

    // The wall as it is read: promises 13 to 15.

    public int reads(int tongue, int strokes) {
        if (!isTongue(tongue) || !isSet(strokes)) {
            return NONE;
        }
        return noneForGap(readings.kindOf(tongue, strokes));
    }

    public int read(int tongue, int i) {
        if (!isTongue(tongue) || !now.hasCell(i)) {
            return NONE;
        }
        return noneForGap(kindAt(tongue, i));
    }

    public int spoken(int tongue) {
        if (!isTongue(tongue)) {
            return NONE;
        }
        int words = 0;
        int start = 0;
        for (int i = 0; i <= now.cells; i++) {
            if (i == now.cells || kindAt(tongue, i) == GAP) {
                if (!isWord(tongue, start, i)) {
                    return 0;
                }
                words++;
                start = i + 1;
            }
        }
        return words;
    }

    // Letters that go together: promises 16 to 18.

    public int pair(int east, int west, int what) {
        if (!isLetterOrGap(east) || !isLetterOrGap(west)) {
            return NONE;
        }
        int pair = pairOf(gapForNone(east), gapForNone(west));
        if (what == 0) {
            return allPairs.ways[pair];
        }
        return what == 1 && allPairs.ways[pair] > 0 ? allPairs.least[pair] : NONE;
    }

    public int partners(int east) {
        if (!isLetterOrGap(east)) {
            return NONE;
        }
        int bits = 0;
        for (int west = 0; west < KINDS; west++) {
            if (allPairs.ways[pairOf(gapForNone(east), west)] > 0) {
                bits |= 1 << west;
            }
        }
        return bits;
    }

    public int pairs() {
        int sum = 0;
        for (int i = 0; i < allPairs.used; i++) {
            int pair = allPairs.pairAt[i];
            if (pair / KINDS != GAP && pair % KINDS != GAP) {
                sum++;
            }
        }
        return sum;
    }

    // Texts and the walls near them: promises 19 to 22.

    public int say(int tongue, int letter) {
        if (!isTongue(tongue) || !isLetterOrGap(letter)) {
            return refuse(BAD_NUMBER);
        }
        Tongue told = now.tongue(tongue);
        if (told.textLength >= MOST_CELLS) {
            return refuse(NO_ROOM);
        }
        told.text[told.textLength] = gapForNone(letter);
        told.textLength++;
        return grant(told.textLength);
    }

    public int hush(int tongue) {
        if (!isTongue(tongue)) {
            return refuse(BAD_NUMBER);
        }
        int was = now.tongue(tongue).textLength;
        now.tongue(tongue).textLength = 0;
        return grant(was);
    }

    public int near(int what) {
        int n = now.east.textLength;
        if (what < 0 || what > 2 || n != now.west.textLength) {
            return NONE;
        }
        int wrong = 0;
        int cost = 0;
        long ways = 1;
        for (int i = 0; i < n; i++) {
            findNearest(i, n);
            wrong += nearest.wrong;
            cost += nearest.cost;
            ways = Math.min(MOST_NEAR, ways * nearest.ways);
        }
        if (what == 0) {
            return wrong;
        }
        return what == 1 ? cost : (int) ways;
    }

    public int nearAt(int i) {
        int n = now.east.textLength;
        if (n != now.west.textLength || i < 0 || i >= n) {
            return NONE;
        }
        findNearest(i, n);
        return nearest.set;
    }

    // Stories and the walls that tell them: promises 23 to 28.

    public int mean(int tongue, int meaning) {
        if (!isTongue(tongue) || meaning < 0 || meaning >= MEANINGS) {
            return refuse(BAD_NUMBER);
        }
        Tongue told = now.tongue(tongue);
        if (told.storyLength >= LONGEST_STORY) {
            return refuse(NO_ROOM);
        }
        told.story[told.storyLength] = meaning;
        told.storyLength++;
        tellingsKnown = false;
        return grant(told.storyLength);
    }

    public int forget(int tongue) {
        if (!isTongue(tongue)) {
            return refuse(BAD_NUMBER);
        }
        int was = now.tongue(tongue).storyLength;
        now.tongue(tongue).storyLength = 0;
        tellingsKnown = false;
        return grant(was);
    }

    public long tells() {
        findTellings();
        return tellings.count[now.cells];
    }

    public int price() {
        findTellings();
        return tellings.count[now.cells] > 0 ? tellings.cost[now.cells] : NONE;
    }

    public int first(int i) {
        findTellings();
        int n = now.cells;
        if (!now.hasCell(i) || tellings.count[n] == 0) {
            return NONE;
        }
        return tellings.cellOf(n, i, n);
    }

    public int lengths(int i) {
        findTellings();
        int with = 0;
        for (int n = 1; n <= MOST_CELLS; n++) {
            if (tellings.count[n] > 0) {
                if (with == i) {
                    return n;
                }
                with++;
            }
        }
        return i == NONE ? with : NONE;
    }

    // Strokes that are lost: promises 29 to 32.

    public int lost(int cell, int strokes) {
        if (!now.hasCell(cell) || !isSet(strokes)) {
            return refuse(BAD_NUMBER);
        }
        int were = now.gone[cell];
        now.gone[cell] = strokes;
        return grant(were);
    }

    public long may() {
        findWalls(NONE, 0);
        return found.count[0];
    }

    public int sure(int cell, int what) {
        if (!now.hasCell(cell) || what < 0 || what > 2) {
            return NONE;
        }
        findWalls(cell, 0);
        if (found.count[0] == 0) {
            return NONE;
        }
        int with = found.shown[0] & ALL_STROKES;
        int without = found.shown[0] >> STROKES & ALL_STROKES;
        if (what == 0) {
            return now.gone[cell] & with & ~without;
        }
        return now.gone[cell] & without & (what == 1 ? ~with : with);
    }

    public long often(int cell, int stroke) {
        if (!now.hasCell(cell) || stroke < 1 || stroke > STROKES) {
            return NONE;
        }
        findWalls(cell, 1 << stroke - 1);
        return found.count[0];
    }

    // Yards: promises 33 to 36.

    public int yard(int from, int to, int week, int till, int rent) {
        boolean cellsCanBe = now.hasCell(from) && now.hasCell(to) && from <= to;
        boolean weeksCanBe = week >= 0 && week <= till && till <= LAST_WEEK;
        if (!cellsCanBe || !weeksCanBe || rent < 0 || rent > MOST_RENT) {
            return refuse(BAD_NUMBER);
        }
        if (now.yards.held >= MOST_YARDS) {
            return refuse(NO_ROOM);
        }
        return grant(now.yards.take(from, to, week, till, rent));
    }

    public int drop(int yard) {
        if (yard < 0 || yard >= now.yards.held) {
            return refuse(NO_SUCH);
        }
        now.yards.remove(yard);
        return grant(now.yards.held);
    }

    public int letting(int yards) {
        if (yards < 0 || yards >= 1 << now.yards.held) {
            return NONE;
        }
        return now.yards.rentOf(yards);
    }

    public int best(int what) {
        if (what < 0 || what > 2) {
            return NONE;
        }
        now.yards.listRents(rents);
        int lettings = 1 << now.yards.held;
        int lowest = 0;
        int alike = 0;
        for (int yards = 0; yards < lettings; yards++) {
            if (rents[yards] > rents[lowest]) {
                lowest = yards;
                alike = 0;
            }
            if (rents[yards] == rents[lowest]) {
                alike++;
            }
        }
        if (what == 0) {
            return rents[lowest];
        }
        return what == 1 ? lowest : alike;
    }

    // Rain, images, counts: promises 37 to 41.

    public int rain(int seed, int hard) {
        if (seed < 0 || seed > MOST_SEED || hard < 0 || hard > HARDEST) {
            return refuse(BAD_NUMBER);
        }
        return grant(now.wash(seed, hard));
    }

    public int image(int k) {
        if (k < 0 || k >= images.length) {
            return refuse(BAD_NUMBER);
        }
        if (images[k] == null) {
            images[k] = new State();
        }
        images[k].copyFrom(now);
        return grant(0);
    }

    public int back(int k) {
        if (k < 0 || k >= images.length) {
            return refuse(BAD_NUMBER);
        }
        if (images[k] == null) {
            return refuse(NO_SUCH);
        }
        now.copyFrom(images[k]);
        renewReadings();
        return grant(0);
    }

    public int count(int what) {
        if (what >= 11 && what <= 14) {
            return refused[what - 11];
        }
        if (what >= 15 && what < 15 + STROKES) {
            return now.mirror[what - 15];
        }
        if (what >= 22 && what < 22 + STROKES) {
            return now.costs[what - 22];
        }
        switch (what) {
            case 0: return now.cells;
            case 1: return now.east.toldLetters();
            case 2: return now.west.toldLetters();
            case 3: return now.east.words;
            case 4: return now.west.words;
            case 5: return now.east.textLength;
            case 6: return now.west.textLength;
            case 7: return now.east.storyLength;
            case 8: return now.west.storyLength;
            case 9: return now.yards.held;
            case 10: return tape.length;
            default: return NONE;
        }
    }

    public int status() {
        return refusedBy;
    }

    // What the promises above have in common.

    private int refuse(int by) {
        refusedBy = by;
        switch (by) {
            case BAD_NUMBER: refused[0]++; break;
            case NO_SUCH: refused[1]++; break;
            case NO_ROOM: refused[2]++; break;
            default: refused[3]++; break;
        }
        return by;
    }

    private int grant(int answer) {
        refusedBy = 0;
        return answer;
    }

    private void renewReadings() {
        readings.make(now);
        allPairs.clear();
        for (int set = 0; set < SETS; set++) {
            allPairs.add(readings, set, 0);
        }
        tellingsKnown = false;
    }

    private int kindAt(int tongue, int i) {
        int cell = tongue == EAST ? i : now.cells - 1 - i;
        return readings.kindOf(tongue, now.painted[cell]);
    }

    private boolean isWord(int tongue, int start, int behind) {
        Tongue told = now.tongue(tongue);
        for (int word = 0; word < told.words; word++) {
            if (told.wordLengths[word] == behind - start && isWordAt(tongue, word, start)) {
                return true;
            }
        }
        return false;
    }

    private boolean isWordAt(int tongue, int word, int start) {
        Tongue told = now.tongue(tongue);
        for (int i = 0; i < told.wordLengths[word]; i++) {
            if (kindAt(tongue, start + i) != told.letterOf(word, i)) {
                return false;
            }
        }
        return true;
    }

    private void findNearest(int i, int n) {
        nearest.find(allPairs, now.east.text[i], now.west.text[n - 1 - i]);
    }

    private void findTellings() {
        if (tellingsKnown) {
            return;
        }
        crossing.east.makeStory(now.east, false);
        crossing.west.makeStory(now.west, true);
        crossing.begin();
        for (int cell = 0; cell < MOST_CELLS; cell++) {
            crossing.step(allPairs, cell);
            crossing.gather(tellings, cell + 1);
        }
        tellingsKnown = true;
    }

    /** Finds the walls that may have been; those alone that have the strokes in the cell. */
    private void findWalls(int cell, int strokes) {
        crossing.east.makeWords(now.east, false);
        crossing.west.makeWords(now.west, true);
        crossing.begin();
        for (int at = 0; at < now.cells; at++) {
            listSets(at, at == cell, strokes);
            crossing.step(cellPairs, at);
        }
        crossing.gather(found, 0);
    }

    private void listSets(int cell, boolean isAsked, int strokes) {
        int gone = now.gone[cell];
        int kept = now.painted[cell] & ~gone;
        int some = 0;
        cellPairs.clear();
        for (int i = 0; i < 1 << Integer.bitCount(gone); i++) {
            int set = kept | some;
            if (!isAsked) {
                cellPairs.add(readings, set, 0);
            } else if ((set & strokes) == strokes) {
                cellPairs.add(readings, set, set | (ALL_STROKES & ~set) << STROKES);
            }
            // The borrow runs through the bits that are not gone: this is the next higher part.
            some = some - gone & gone;
        }
    }

    private static boolean isTongue(int tongue) {
        return tongue == EAST || tongue == WEST;
    }

    private static boolean isLetter(int letter) {
        return letter >= 0 && letter < LETTERS;
    }

    private static boolean isLetterOrGap(int letter) {
        return letter == NONE || isLetter(letter);
    }

    private static boolean isSet(int strokes) {
        return strokes >= 0 && strokes < SETS;
    }

    private static int gapForNone(int letter) {
        return letter == NONE ? GAP : letter;
    }

    private static int noneForGap(int kind) {
        return kind == GAP ? NONE : kind;
    }

    private static int pairOf(int eastKind, int westKind) {
        return eastKind * KINDS + westKind;
    }

    /** All that an image keeps. */
    private static final class State {
        int cells = FIRST_CELLS;
        final int[] painted = new int[MOST_CELLS];
        final int[] gone = new int[MOST_CELLS];
        final int[] mirror = new int[STROKES];
        final int[] costs = new int[STROKES];
        final Tongue east = new Tongue();
        final Tongue west = new Tongue();
        final Yards yards = new Yards();

        State() {
            for (int i = 0; i < STROKES; i++) {
                mirror[i] = i + 1;
                costs[i] = 1;
            }
        }

        void copyFrom(State other) {
            cells = other.cells;
            System.arraycopy(other.painted, 0, painted, 0, MOST_CELLS);
            System.arraycopy(other.gone, 0, gone, 0, MOST_CELLS);
            System.arraycopy(other.mirror, 0, mirror, 0, STROKES);
            System.arraycopy(other.costs, 0, costs, 0, STROKES);
            east.copyTongue(other.east);
            west.copyTongue(other.west);
            yards.copyYards(other.yards);
        }

        Tongue tongue(int tongue) {
            return tongue == EAST ? east : west;
        }

        boolean hasCell(int cell) {
            return cell >= 0 && cell < cells;
        }

        /** Cells beyond the wall are kept bare, so that the wall can grow into them. */
        void resize(int n) {
            for (int cell = n; cell < MOST_CELLS; cell++) {
                painted[cell] = 0;
                gone[cell] = 0;
            }
            cells = n;
        }

        int wash(int seed, int hard) {
            long s = seed;
            int off = 0;
            for (int cell = 0; cell < cells; cell++) {
                for (int i = 0; i < STROKES; i++) {
                    if ((painted[cell] >> i & 1) != 0) {
                        s = (s * 1103 + 12345) % 1_000_003;
                        if (s % 100 < hard) {
                            painted[cell] &= ~(1 << i);
                            off++;
                        }
                    }
                }
            }
            return off;
        }
    }

    /** What is told of a tongue, said and meant in it. */
    private static final class Tongue {
        /** A letter must have a stroke at least: 0 stands for one that is not told. */
        final int[] must = new int[LETTERS];
        final int[] mustNot = new int[LETTERS];
        final int[] meanings = new int[MOST_WORDS];
        final int[] wordLengths = new int[MOST_WORDS];
        final int[] wordLetters = new int[MOST_WORDS * LONGEST_WORD];
        int words;
        final int[] text = new int[MOST_CELLS];
        int textLength;
        final int[] story = new int[LONGEST_STORY];
        int storyLength;

        void copyTongue(Tongue other) {
            System.arraycopy(other.must, 0, must, 0, LETTERS);
            System.arraycopy(other.mustNot, 0, mustNot, 0, LETTERS);
            System.arraycopy(other.meanings, 0, meanings, 0, MOST_WORDS);
            System.arraycopy(other.wordLengths, 0, wordLengths, 0, MOST_WORDS);
            System.arraycopy(other.wordLetters, 0, wordLetters, 0, MOST_WORDS * LONGEST_WORD);
            words = other.words;
            System.arraycopy(other.text, 0, text, 0, MOST_CELLS);
            textLength = other.textLength;
            System.arraycopy(other.story, 0, story, 0, LONGEST_STORY);
            storyLength = other.storyLength;
        }

        boolean isTold(int letter) {
            return must[letter] != 0;
        }

        int toldLetters() {
            int told = 0;
            for (int letter = 0; letter < LETTERS; letter++) {
                if (isTold(letter)) {
                    told++;
                }
            }
            return told;
        }

        int letterOf(int word, int i) {
            return wordLetters[word * LONGEST_WORD + i];
        }
    }

    /** The yards in their order, and which of them can be let together. */
    private static final class Yards {
        final int[] from = new int[MOST_YARDS];
        final int[] to = new int[MOST_YARDS];
        final int[] week = new int[MOST_YARDS];
        final int[] till = new int[MOST_YARDS];
        final int[] rent = new int[MOST_YARDS];
        int held;

        void copyYards(Yards other) {
            for (int i = 0; i < MOST_YARDS; i++) {
                copyYard(other, i, i);
            }
            held = other.held;
        }

        void copyYard(Yards other, int theirs, int mine) {
            from[mine] = other.from[theirs];
            to[mine] = other.to[theirs];
            week[mine] = other.week[theirs];
            till[mine] = other.till[theirs];
            rent[mine] = other.rent[theirs];
        }

        int take(int fromCell, int toCell, int fromWeek, int tillWeek, int forRent) {
            if (held >= MOST_YARDS) {
                return NONE;
            }
            from[held] = fromCell;
            to[held] = toCell;
            week[held] = fromWeek;
            till[held] = tillWeek;
            rent[held] = forRent;
            held++;
            return held - 1;
        }

        void remove(int yard) {
            for (int i = yard; i + 1 < held; i++) {
                copyYard(this, i + 1, i);
            }
            held--;
        }

        boolean clash(int a, int b) {
            boolean cells = from[a] <= to[b] && from[b] <= to[a];
            return cells && week[a] <= till[b] && week[b] <= till[a];
        }

        int clashesOf(int yard) {
            int bits = 0;
            for (int other = 0; other < held; other++) {
                if (other != yard && clash(yard, other)) {
                    bits |= 1 << other;
                }
            }
            return bits;
        }

        int rentOf(int yards) {
            int sum = 0;
            for (int yard = 0; yard < held; yard++) {
                if ((yards >> yard & 1) != 0) {
                    if ((clashesOf(yard) & yards) != 0) {
                        return NONE;
                    }
                    sum += rent[yard];
                }
            }
            return sum;
        }

        /** The rent of each set of yards, NONE where two clash: each from the set without its last. */
        void listRents(int[] rents) {
            rents[0] = 0;
            for (int yard = 0; yard < held; yard++) {
                int clashes = clashesOf(yard);
                int bit = 1 << yard;
                for (int yards = 0; yards < bit; yards++) {
                    boolean canBe = rents[yards] != NONE && (yards & clashes) == 0;
                    rents[bit + yards] = canBe ? rents[yards] + rent[yard] : NONE;
                }
            }
        }
    }

    private static final class Tape {
        final int[] bytes = new int[MOST_BYTES];
        int length;

        void append(int number) {
            for (int shift = 24; shift >= 0 && length < MOST_BYTES; shift -= 8) {
                bytes[length] = number >>> shift & 255;
                length++;
            }
        }
    }

    /** Reads the language of the tables, token by token. */
    private static final class TableReader {
        private static final int END = 0;
        private static final int LETTER_ROW = 1;
        private static final int DIGIT_ROW = 2;
        private static final int SINGLE = 3;
        /** Above any number that can be, so that long rows of digits do not wrap around. */
        private static final int TOO_MUCH = 1000;

        private final Tape tape;
        private final State draft;
        private int start;
        private int behind;
        private int kind;
        int faultPlace = NONE;

        TableReader(Tape tape, State draft) {
            this.tape = tape;
            this.draft = draft;
        }

        /** Tells all clauses to the draft: how many; NONE, with faultPlace, if one can't be. */
        int tell() {
            behind = 0;
            faultPlace = NONE;
            step();
            for (int clauses = 0; clauses < MOST_CLAUSES; clauses++) {
                if (!tellClause()) {
                    return NONE;
                }
                if (kind == END) {
                    return clauses + 1;
                }
                if (!isSign(';')) {
                    failAt(start);
                    return NONE;
                }
                step();
            }
            failAt(start);
            return NONE;
        }

        private boolean tellClause() {
            if (isName("east")) {
                return tellLetter(draft.east);
            }
            if (isName("west")) {
                return tellLetter(draft.west);
            }
            if (isName("word")) {
                return tellWord();
            }
            if (isName("mirror")) {
                return tellMirror();
            }
            if (isName("cost")) {
                return tellCost();
            }
            return isName("drop") ? tellDrop() : failAt(start);
        }

        private boolean tellLetter(Tongue tongue) {
            step();
            int letter = oneLetter();
            if (letter == NONE) {
                return failAt(start);
            }
            step();
            int must = strokeRow();
            if (must == 0) {
                return failAt(start);
            }
            step();
            int mustNot = 0;
            if (isName("not")) {
                step();
                mustNot = strokeRow();
                if (mustNot == 0 || (mustNot & must) != 0) {
                    return failAt(start);
                }
                step();
            }
            tongue.must[letter] = must;
            tongue.mustNot[letter] = mustNot;
            return true;
        }

        private boolean tellWord() {
            int wordPlace = start;
            step();
            Tongue tongue = namedTongue();
            if (tongue == null) {
                return failAt(start);
            }
            // "word" stands ahead of all else in its clause: without room, it is the first fault.
            if (tongue.words >= MOST_WORDS) {
                return failAt(wordPlace);
            }
            step();
            int meaning = number();
            if (meaning < 0 || meaning >= MEANINGS) {
                return failAt(start);
            }
            step();
            if (kind != LETTER_ROW || behind - start > LONGEST_WORD) {
                return failAt(start);
            }
            addWord(tongue, meaning);
            step();
            return true;
        }

        private void addWord(Tongue tongue, int meaning) {
            int word = tongue.words;
            tongue.meanings[word] = meaning;
            tongue.wordLengths[word] = behind - start;
            for (int i = 0; i < behind - start && i < LONGEST_WORD; i++) {
                tongue.wordLetters[word * LONGEST_WORD + i] = tape.bytes[start + i] - 'a';
            }
            tongue.words++;
        }

        private boolean tellMirror() {
            step();
            if (behind - start != STROKES || strokeRow() != ALL_STROKES) {
                return failAt(start);
            }
            for (int i = 0; i < STROKES; i++) {
                draft.mirror[i] = tape.bytes[start + i] - '0';
            }
            step();
            return true;
        }

        private boolean tellCost() {
            step();
            int stroke = number();
            if (stroke < 1 || stroke > STROKES) {
                return failAt(start);
            }
            step();
            int cost = number();
            if (cost < 0 || cost > MOST_COST) {
                return failAt(start);
            }
            draft.costs[stroke - 1] = cost;
            step();
            return true;
        }

        private boolean tellDrop() {
            step();
            Tongue tongue = namedTongue();
            if (tongue == null) {
                return failAt(start);
            }
            step();
            int letter = oneLetter();
            if (letter == NONE) {
                return failAt(start);
            }
            tongue.must[letter] = 0;
            tongue.mustNot[letter] = 0;
            step();
            return true;
        }

        private boolean failAt(int place) {
            faultPlace = place;
            return false;
        }

        /** Goes on to the next token. */
        private void step() {
            start = behind;
            while (start < tape.length && tape.bytes[start] == ' ') {
                start++;
            }
            behind = start;
            if (start >= tape.length) {
                kind = END;
                return;
            }
            kind = kindOfByte(tape.bytes[start]);
            behind++;
            while (kind != SINGLE && behind < tape.length && kindOfByte(tape.bytes[behind]) == kind) {
                behind++;
            }
        }

        private static int kindOfByte(int sign) {
            if (sign >= 'a' && sign <= 'z') {
                return LETTER_ROW;
            }
            return sign >= '0' && sign <= '9' ? DIGIT_ROW : SINGLE;
        }

        private boolean isSign(char sign) {
            return kind == SINGLE && tape.bytes[start] == sign;
        }

        private boolean isName(String name) {
            if (kind != LETTER_ROW || behind - start != name.length()) {
                return false;
            }
            for (int i = 0; i < name.length(); i++) {
                if (tape.bytes[start + i] != name.charAt(i)) {
                    return false;
                }
            }
            return true;
        }

        private Tongue namedTongue() {
            if (isName("east")) {
                return draft.east;
            }
            return isName("west") ? draft.west : null;
        }

        private int oneLetter() {
            return kind == LETTER_ROW && behind - start == 1 ? tape.bytes[start] - 'a' : NONE;
        }

        private int number() {
            if (kind != DIGIT_ROW) {
                return NONE;
            }
            int number = 0;
            for (int i = start; i < behind; i++) {
                number = Math.min(TOO_MUCH, number * 10 + tape.bytes[i] - '0');
            }
            return number;
        }

        /** The strokes of a row of digits as bits; 0 if it is none, or one comes twice. */
        private int strokeRow() {
            if (kind != DIGIT_ROW) {
                return 0;
            }
            int bits = 0;
            for (int i = start; i < behind; i++) {
                int stroke = tape.bytes[i] - '0';
                if (stroke < 1 || stroke > STROKES || (bits >> stroke - 1 & 1) != 0) {
                    return 0;
                }
                bits |= 1 << stroke - 1;
            }
            return bits;
        }
    }

    /** As which letter or gap each set of strokes is read both ways, and what it costs. */
    private static final class Readings {
        final int[] eastKind = new int[SETS];
        final int[] westKind = new int[SETS];
        final int[] cost = new int[SETS];
        private final int[] seenInEast = new int[SETS];
        private final int[] seenInWest = new int[SETS];

        void make(State state) {
            for (int i = 0; i < STROKES; i++) {
                int bit = 1 << i;
                for (int lower = 0; lower < bit; lower++) {
                    cost[bit + lower] = cost[lower] + state.costs[i];
                    seenInEast[bit + lower] = bit + lower;
                    seenInWest[bit + lower] = seenInWest[lower] | 1 << state.mirror[i] - 1;
                }
            }
            listKinds(state.east, seenInEast, eastKind);
            listKinds(state.west, seenInWest, westKind);
        }

        /** From z to a, so that the first letter that a set can be is the one that stays. */
        private static void listKinds(Tongue tongue, int[] seen, int[] kinds) {
            Arrays.fill(kinds, GAP);
            for (int letter = LETTERS - 1; letter >= 0; letter--) {
                if (tongue.isTold(letter)) {
                    int must = tongue.must[letter];
                    int asked = must | tongue.mustNot[letter];
                    for (int set = 0; set < SETS; set++) {
                        if ((seen[set] & asked) == must) {
                            kinds[set] = letter;
                        }
                    }
                }
            }
        }

        int kindOf(int tongue, int set) {
            return tongue == EAST ? eastKind[set] : westKind[set];
        }
    }

    /** For some sets of strokes: in how many ways letters of both tongues go together in them. */
    private static final class PairTable {
        final int[] ways = new int[KINDS * KINDS];
        final int[] least = new int[KINDS * KINDS];
        final int[] cost = new int[KINDS * KINDS];
        final int[] shown = new int[KINDS * KINDS];
        /** The pairs that have ways, so that clearing need not go through all. */
        final int[] pairAt = new int[SETS];
        int used;

        void clear() {
            for (int i = 0; i < used; i++) {
                ways[pairAt[i]] = 0;
            }
            used = 0;
        }

        /** Sets come lowest first: of alike cost the first one stays the least. */
        void add(Readings readings, int set, int marks) {
            int pair = pairOf(readings.eastKind[set], readings.westKind[set]);
            if (ways[pair] == 0) {
                if (used >= SETS) {
                    return;
                }
                pairAt[used] = pair;
                used++;
                cost[pair] = BEYOND_COST;
                shown[pair] = 0;
            }
            ways[pair]++;
            shown[pair] |= marks;
            if (readings.cost[set] < cost[pair]) {
                cost[pair] = readings.cost[set];
                least[pair] = set;
            }
        }
    }

    /** The set of strokes that comes nearest to a letter of each tongue. */
    private static final class Nearest {
        int wrong;
        int cost;
        int set;
        int ways;

        void find(PairTable pairs, int eastKind, int westKind) {
            wrong = BEYOND_COST;
            for (int i = 0; i < pairs.used; i++) {
                int pair = pairs.pairAt[i];
                int off = pair / KINDS == eastKind ? 0 : 1;
                if (pair % KINDS != westKind) {
                    off++;
                }
                if (off < wrong) {
                    wrong = off;
                    cost = BEYOND_COST;
                    ways = 0;
                }
                if (off == wrong) {
                    choose(pairs, pair);
                }
            }
        }

        private void choose(PairTable pairs, int pair) {
            ways += pairs.ways[pair];
            boolean alike = pairs.cost[pair] == cost;
            if (pairs.cost[pair] < cost || alike && pairs.least[pair] < set) {
                cost = pairs.cost[pair];
                set = pairs.least[pair];
            }
        }
    }

    /**
     * The rows of letters and gaps that a tongue may show, as a tree of their beginnings: each row
     * has one way only through it, so that no wall is counted twice.
     */
    private static final class Rows {
        private static final int MOST_NODES = LONGEST_STORY * (MOST_WORDS * LONGEST_WORD + 1);
        private static final int MOST_MOVES = MOST_WORDS + 1;

        private final int[] letter = new int[MOST_NODES];
        private final int[] child = new int[MOST_NODES];
        private final int[] sibling = new int[MOST_NODES];
        private final int[] behindGap = new int[MOST_NODES];
        final boolean[] mayEnd = new boolean[MOST_NODES];
        int nodes;
        final int[] moveKind = new int[MOST_MOVES];
        final int[] moveTo = new int[MOST_MOVES];
        int moves;

        /** Rows that tell the story; backward for who goes through the wall the other way. */
        void makeStory(Tongue tongue, boolean backward) {
            int length = tongue.storyLength;
            nodes = 0;
            int root = addNode(GAP);
            if (length == 0) {
                behindGap[root] = root;
                mayEnd[root] = true;
            }
            for (int i = 1; i < length; i++) {
                addNode(GAP);
            }
            for (int i = 0; i < length; i++) {
                int meaning = tongue.story[backward ? length - 1 - i : i];
                for (int word = 0; word < tongue.words; word++) {
                    if (tongue.meanings[word] == meaning) {
                        int last = addWord(i, tongue, word, backward);
                        mayEnd[last] = i == length - 1;
                        behindGap[last] = i == length - 1 ? NONE : i + 1;
                    }
                }
            }
        }

        /** Rows of any words, one at least. */
        void makeWords(Tongue tongue, boolean backward) {
            nodes = 0;
            int root = addNode(GAP);
            for (int word = 0; word < tongue.words; word++) {
                int last = addWord(root, tongue, word, backward);
                mayEnd[last] = true;
                behindGap[last] = root;
            }
        }

        private int addWord(int root, Tongue tongue, int word, boolean backward) {
            int length = tongue.wordLengths[word];
            int node = root;
            for (int i = 0; i < length; i++) {
                node = childOf(node, tongue.letterOf(word, backward ? length - 1 - i : i));
            }
            return node;
        }

        private int childOf(int node, int wanted) {
            int next = child[node];
            for (int i = 0; i < MOST_WORDS && next != NONE; i++) {
                if (letter[next] == wanted) {
                    return next;
                }
                next = sibling[next];
            }
            int made = addNode(wanted);
            if (made != node) {
                sibling[made] = child[node];
                child[node] = made;
            }
            return made;
        }

        private int addNode(int kind) {
            int node = Math.min(nodes, MOST_NODES - 1);
            letter[node] = kind;
            child[node] = NONE;
            sibling[node] = NONE;
            behindGap[node] = NONE;
            mayEnd[node] = false;
            nodes = node + 1;
            return node;
        }

        void listMoves(int node) {
            moves = 0;
            if (behindGap[node] != NONE) {
                addMove(GAP, behindGap[node]);
            }
            int next = child[node];
            for (int i = 0; i < MOST_WORDS && next != NONE; i++) {
                addMove(letter[next], next);
                next = sibling[next];
            }
        }

        private void addMove(int kind, int to) {
            if (moves < MOST_MOVES) {
                moveKind[moves] = kind;
                moveTo[moves] = to;
                moves++;
            }
        }
    }

    /** For each place in the rows of both tongues the walls so far that lead there. */
    private static final class Layer {
        int live;
        int[] eastNode;
        int[] westNode;
        long[] count;
        int[] cost;
        /** The cheapest of these walls, seven bits a cell: the first eight cells, the others. */
        long[] head;
        long[] tail;
        /** Strokes that the asked cell has in one of these walls; above them, that it has not. */
        int[] shown;

        Layer(int room) {
            int size = Math.max(1, room);
            eastNode = new int[size];
            westNode = new int[size];
            count = new long[size];
            cost = new int[size];
            head = new long[size];
            tail = new long[size];
            shown = new int[size];
        }

        void blank(int at) {
            count[at] = 0;
            cost[at] = BEYOND_COST;
            head[at] = 0;
            tail[at] = 0;
            shown[at] = 0;
        }

        int open(int east, int west) {
            if (live >= count.length) {
                grow(2 * live);
            }
            int at = live;
            live++;
            eastNode[at] = east;
            westNode[at] = west;
            blank(at);
            return at;
        }

        private void grow(int size) {
            eastNode = Arrays.copyOf(eastNode, size);
            westNode = Arrays.copyOf(westNode, size);
            count = Arrays.copyOf(count, size);
            cost = Arrays.copyOf(cost, size);
            head = Arrays.copyOf(head, size);
            tail = Arrays.copyOf(tail, size);
            shown = Arrays.copyOf(shown, size);
        }

        void take(int at, long more, int price, long front, long rest, int marks) {
            count[at] = Math.min(MOST_WALLS, count[at] + more);
            shown[at] |= marks;
            boolean lower = front < head[at] || front == head[at] && rest < tail[at];
            if (price < cost[at] || price == cost[at] && lower) {
                cost[at] = price;
                head[at] = front;
                tail[at] = rest;
            }
        }

        /** Cell i of the cheapest wall of n cells. */
        int cellOf(int at, int i, int n) {
            int half = MOST_CELLS / 2;
            if (i < half) {
                return (int) (head[at] >> STROKES * (Math.min(n, half) - 1 - i) & ALL_STROKES);
            }
            return (int) (tail[at] >> STROKES * (n - 1 - i) & ALL_STROKES);
        }
    }

    /**
     * Goes through the cells with the rows of both tongues at once. West's rows are laid backward,
     * so that both begin at cell 0 and one way through serves walls of every length.
     */
    private static final class Crossing {
        private static final int FIRST_ROOM = 16;

        final Rows east = new Rows();
        final Rows west = new Rows();
        private Layer from = new Layer(FIRST_ROOM);
        private Layer to = new Layer(FIRST_ROOM);
        /** Where in the next layer a pair of nodes stands; NONE for all between the steps. */
        private int[] placeOf = new int[0];

        void begin() {
            int room = east.nodes * west.nodes;
            if (placeOf.length < room) {
                placeOf = new int[Math.min(2 * room, Rows.MOST_NODES * Rows.MOST_NODES)];
                Arrays.fill(placeOf, NONE);
            }
            from.live = 0;
            int at = from.open(0, 0);
            from.take(at, 1, 0, 0, 0, 0);
        }

        void step(PairTable pairs, int cell) {
            to.live = 0;
            for (int i = 0; i < from.live; i++) {
                east.listMoves(from.eastNode[i]);
                west.listMoves(from.westNode[i]);
                for (int a = 0; a < east.moves; a++) {
                    for (int b = 0; b < west.moves; b++) {
                        int pair = pairOf(east.moveKind[a], west.moveKind[b]);
                        if (pairs.ways[pair] > 0) {
                            int at = placeFor(east.moveTo[a], west.moveTo[b]);
                            carry(i, at, pairs, pair, cell);
                        }
                    }
                }
            }
            for (int i = 0; i < to.live; i++) {
                placeOf[to.eastNode[i] * west.nodes + to.westNode[i]] = NONE;
            }
            Layer done = from;
            from = to;
            to = done;
        }

        private int placeFor(int eastNode, int westNode) {
            int both = eastNode * west.nodes + westNode;
            if (placeOf[both] == NONE) {
                placeOf[both] = to.open(eastNode, westNode);
            }
            return placeOf[both];
        }

        private void carry(int i, int at, PairTable pairs, int pair, int cell) {
            long more = from.count[i] * pairs.ways[pair];
            int price = from.cost[i] + pairs.cost[pair];
            long front = from.head[i];
            long rest = from.tail[i];
            if (cell < MOST_CELLS / 2) {
                front = front << STROKES | pairs.least[pair];
            } else {
                rest = rest << STROKES | pairs.least[pair];
            }
            to.take(at, more, price, front, rest, from.shown[i] | pairs.shown[pair]);
        }

        /** All walls that may end here, as one row of the answers. */
        void gather(Layer answers, int at) {
            answers.blank(at);
            for (int i = 0; i < from.live; i++) {
                if (east.mayEnd[from.eastNode[i]] && west.mayEnd[from.westNode[i]]) {
                    answers.take(at, from.count[i], from.cost[i], from.head[i], from.tail[i], from.shown[i]);
                }
            }
        }
    }
}
