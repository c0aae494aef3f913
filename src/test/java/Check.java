import java.util.NoSuchElementException;

/** What the tests share: answers against due ones, and texts told by sign() and end(). */
final class Check {
    private static final int SHOWN = 40;

    private final String name;
    private int wrong;
    private int asked;

    Check(String name) {
        this.name = name;
    }

    void due(String call, long got, long want) {
        asked++;
        if (got != want) {
            wrong++;
            if (wrong <= SHOWN) {
                System.out.println(name + ": " + call + " answered " + got + ", due is " + want);
            }
        }
    }

    void due(String call, boolean got, boolean want) {
        due(call, got ? 1 : 0, want ? 1 : 0);
    }

    void dueThrow(DuelRound d, int x, int y, int what) {
        dueThrow("", d, x, y, what);
    }

    /** That duel() throws NoSuchElementException. */
    void dueThrow(String by, DuelRound d, int x, int y, int what) {
        int thrown = 0;
        try {
            d.duel(x, y, what);
        } catch (NoSuchElementException e) {
            thrown = 1;
        }
        due(by + "duel(" + x + ", " + y + ", " + what + ") throws", thrown, 1);
    }

    void end() {
        System.out.println(name + ": " + asked + " answers, " + wrong + " not as due");
        if (wrong != 0) {
            System.exit(1);
        }
    }

    /** THE TEXT becomes this one. */
    static void say(DuelRound d, String text) {
        d.end(0);
        for (int i = 0; i < text.length(); i += 4) {
            int v = 0;
            for (int k = i; k < i + 4; k++) {
                v = v << 8 | (k < text.length() ? text.charAt(k) : 32);
            }
            if (d.sign(v) == DuelRound.NONE) {
                throw new IllegalStateException("the text is too long");
            }
        }
        if (!d.end(text.length())) {
            throw new IllegalStateException("the text is not as long");
        }
    }

    static int round(DuelRound d, String text) {
        say(d, text);
        return d.round();
    }

    static int judge(DuelRound d, String text) {
        say(d, text);
        return d.judge();
    }

    static DuelRound of(String text) {
        DuelRound d = new DuelRound();
        if (round(d, text) < 0) {
            throw new IllegalStateException("no round: " + text);
        }
        return d;
    }

    /** All that can be asked of what an object holds, but for the signs of THE TEXT themselves. */
    static String state(DuelRound d) {
        StringBuilder b = new StringBuilder();
        for (int what = 0; what <= 5; what++) {
            b.append(d.count(what)).append(' ');
        }
        int n = d.count(0);
        for (int x = 0; x < n; x++) {
            b.append('/').append(d.beaten(x, (1 << n) - 1));
        }
        for (int what = 0; what <= 3; what++) {
            b.append(' ').append(d.judged(what));
        }
        for (int k = 0; k <= 1; k++) {
            b.append(" kept ").append(d.alike(k, 0)).append(' ').append(d.alike(k, 1));
        }
        return b.toString();
    }
}
