import com.sun.management.ThreadMXBean;
import java.lang.management.ManagementFactory;

/** All calls of a run live in one room: what 512 dear calls make must stay small. */
public final class RoomTests {
    private static final ThreadMXBean BEAN = (ThreadMXBean) ManagementFactory.getThreadMXBean();
    private static int wrong = 0;

    private static long made() {
        return BEAN.getThreadAllocatedBytes(Thread.currentThread().getId());
    }

    private static void check(String what, long bytes, long most) {
        System.out.println(what + ": " + bytes + " bytes");
        if (bytes > most) {
            wrong++;
            System.out.println("  that is more than " + most);
        }
    }

    private static int[][] numbersOf(String text) {
        int[][] feeds = new int[(text.length() + 19) / 20][5];
        for (int i = 0; i < 20 * feeds.length; i++) {
            int sign = i < text.length() ? text.charAt(i) : ' ';
            feeds[i / 20][i % 20 / 4] = feeds[i / 20][i % 20 / 4] << 8 | sign;
        }
        return feeds;
    }

    private static void tell(TwoWayWall x, int[][] feeds) {
        for (int[] a : feeds) {
            x.feed(a[0], a[1], a[2], a[3], a[4]);
        }
        if (x.tables() < 0) {
            wrong++;
            System.out.println("a text can't be, at " + x.fault());
        }
    }

    /** Seven letters a tongue, each of which goes with each of the other's. */
    private static String manyLetters() {
        StringBuilder b = new StringBuilder();
        String[] east = {"123", "12", "13", "23", "1", "2", "3"};
        String[] west = {"456", "45", "46", "56", "4", "5", "6"};
        for (int i = 0; i < 7; i++) {
            char letter = (char) ('a' + i);
            b.append(i == 0 ? "" : ";").append("east ").append(letter).append(' ').append(east[i]);
            b.append(";west ").append(letter).append(' ').append(west[i]);
        }
        return b.toString();
    }

    private static final String EAST_WORDS = "word east 0 aabc;word east 0 b;word east 0 cggbd;word east 0 dfcafb;"
        + "word east 0 ebcbg;word east 0 fbbbd;word east 0 gbgca;word east 0 abfcgc";
    private static final String WEST_WORDS = "word west 0 a;word west 0 aggefb;word west 0 bcfcc;word west 0 agfd;"
        + "word west 0 cebcee;word west 0 bceaf;word west 0 dbbcg;word west 0 a";

    private static void dearTellings(int[][] letters, int[][] eastWords, int[][] westWords) {
        long before = made();
        TwoWayWall x = new TwoWayWall();
        tell(x, letters);
        tell(x, eastWords);
        tell(x, westWords);
        for (int i = 0; i < 8; i++) {
            x.mean(i % 2, 0);
        }
        for (int i = 0; i < 100; i++) {
            x.tells();
            x.forget(0);
            for (int meaning = 0; meaning < 4; meaning++) {
                x.mean(0, 0);
            }
        }
        check("dear tellings", made() - before, 4_000_000);
    }

    private static void dearLostStrokes(int[][] letters, int[][] eastWords, int[][] westWords) {
        long before = made();
        TwoWayWall x = new TwoWayWall();
        tell(x, letters);
        tell(x, eastWords);
        tell(x, westWords);
        x.size(16);
        for (int cell = 0; cell < 16; cell++) {
            x.lost(cell, 127);
        }
        for (int i = 0; i < 400; i++) {
            if (x.often(i % 16, 1 + i % 7) < 0 || x.sure(i % 16, i % 3) < 0) {
                wrong++;
            }
        }
        check("dear lost strokes", made() - before, 1_000_000);
    }

    private static void plainCalls() {
        long before = made();
        TwoWayWall x = new TwoWayWall();
        for (int i = 0; i < 40; i++) {
            x.feed(0x65617374, 0x20612031, 0x20202020, 0x20202020, 0x20202020);
            x.tables();
            x.image(i % 2);
            x.back(i % 2);
            x.yard(0, 1, i, i, i);
            x.best(0);
            x.say(0, 0);
            x.say(1, 0);
            x.near(2);
            x.tells();
            x.may();
            x.rain(i, 50);
        }
        check("plain calls", made() - before, 100_000);
    }

    public static void main(String[] args) {
        int[][] letters = numbersOf(manyLetters());
        int[][] east = numbersOf(EAST_WORDS);
        int[][] west = numbersOf(WEST_WORDS);
        dearTellings(letters, east, west);
        dearLostStrokes(letters, east, west);
        plainCalls();
        if (wrong != 0) {
            System.exit(1);
        }
    }
}
