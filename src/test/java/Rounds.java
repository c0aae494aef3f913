/** ROUNDS that the tests by hand use. */
final class Rounds {
    static final String CYCLE = "a>b;b>c;c>a";
    /** a beats all behind, and so on. */
    static final String LINE = "a>b;a>c;a>d;b>c;b>d;c>d";
    /** As LINE, but d beats a. */
    static final String BENT = "a>b;a>c;d>a;b>c;b>d;c>d";
    /** x beats the next one, the next but one, and the fourth behind, of seven in a ring. */
    static final String RING = ring();

    /** e COVERS b, and without b c COVERS a; a is first in the CHAIN a, d, b. */
    static final String FIVE = "a>b;c>a;a>d;e>a;b>c;d>b;e>b;c>d;e>c;d>e";
    /** All balance one another, by WEIGHTS 1, 1, 3, 3, 1. */
    static final String UNLIKE_WEIGHTS = "b>a;c>a;a>d;a>e;c>b;b>d;e>b;d>c;c>e;e>d";
    /** c, d, e are a COVERING cycle, yet nobody is COVERED. */
    static final String SMALL_COVERING = "b>a;c>a;d>a;a>e;a>f;b>c;d>b;e>b;f>b;c>d;e>c;c>f;d>e;f>d;e>f";
    /** No less set is COVERING, but b has the WEIGHT 0. */
    static final String ONE_WITHOUT_WEIGHT = "a>b;a>c;d>a;a>e;f>a;c>b;d>b;b>e;b>f;d>c;e>c;c>f;e>d;f>d;f>e";
    /** f is UNCOVERED, but first in no CHAIN. */
    static final String NOT_BANKS =
            "b>a;a>c;d>a;a>e;f>a;g>a;c>b;b>d;e>b;b>f;b>g;c>d;e>c;f>c;g>c;e>d;f>d;d>g;e>f;e>g;g>f";
    /** c is COVERED; then, without c, b is; then g; then d; a, e and f are left, a cycle. */
    static final String FOUR_TIMES =
            "b>a;a>c;a>d;e>a;a>f;a>g;b>c;d>b;e>b;f>b;g>b;d>c;c>e;f>c;c>g;d>e;f>d;d>g;f>e;e>g;g>f";
    /** No less set is COVERING, but the first seven are KEEPING. */
    static final String SMALL_KEEPING = "a>b;c>a;a>d;e>a;f>a;a>g;h>a;c>b;d>b;b>e;f>b;b>g;b>h;d>c;"
            + "e>c;c>f;c>g;c>h;e>d;d>f;g>d;h>d;f>e;g>e;e>h;g>f;h>f;g>h";

    /** The first seven balance one another by 3, 3, 3, 3, 3, 3, 9, if a common divisor were left in. */
    static final String COMMON_DIVISOR = "a>b;c>a;d>a;e>a;f>a;a>g;a>h;c>b;b>d;e>b;f>b;b>g;h>b;c>d;"
            + "c>e;f>c;g>c;c>h;e>d;f>d;d>g;d>h;e>f;g>e;h>e;g>f;h>f;g>h";
    /** All but a and d win by some ROW. */
    static final String SIX_WINNERS = "b>a;c>a;d>a;e>a;a>f;a>g;h>a;c>b;b>d;b>e;f>b;b>g;b>h;c>d;"
            + "e>c;f>c;c>g;c>h;e>d;f>d;g>d;h>d;f>e;g>e;h>e;g>f;f>h;h>g";

    private Rounds() {
    }

    static String letter(int x) {
        return String.valueOf((char) ('a' + x));
    }

    private static String ring() {
        StringBuilder b = new StringBuilder();
        for (int x = 0; x < 7; x++) {
            for (int step : new int[] {1, 2, 4}) {
                b.append(b.length() == 0 ? "" : ";").append(letter(x)).append('>').append(letter((x + step) % 7));
            }
        }
        return b.toString();
    }

    /** The text of n PLAYERS, each of whom beats all behind. */
    static String lineText(int n) {
        StringBuilder b = new StringBuilder();
        for (int x = 0; x < n; x++) {
            for (int y = x + 1; y < n; y++) {
                b.append(b.length() == 0 ? "" : ";").append(letter(x)).append('>').append(letter(y));
            }
        }
        return b.toString();
    }

    static DuelRound alone() {
        return line(1);
    }

    /** n PLAYERS, each of whom beats all behind; nothing can be undone. */
    static DuelRound line(int n) {
        DuelRound d = new DuelRound();
        d.drawn(1, 0);
        if (n > 1) {
            Check.round(d, lineText(n));
        }
        return d;
    }
}
