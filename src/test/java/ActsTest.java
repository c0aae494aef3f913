import java.util.ArrayList;
import java.util.Arrays;
import java.util.List;
import java.util.Random;

/** Acts, undo(), keep(), again() and alike() in long runs by chance, against a plain list of all ROUNDS. */
public final class ActsTest {
    private static final Check CHECK = new Check("ActsTest");

    private final Random random;
    private final DuelRound d = new DuelRound();
    private boolean[][] now = new boolean[0][0];
    private final List<boolean[][]> past = new ArrayList<>();
    private final boolean[][][] kept = new boolean[2][][];
    private String where = "";

    private ActsTest(int seed) {
        random = new Random(seed);
    }

    public static void main(String[] args) {
        for (int seed = 0; seed < 300; seed++) {
            ActsTest run = new ActsTest(seed);
            for (int step = 0; step < 60; step++) {
                run.where = "seed " + seed + " step " + step + ": ";
                run.step();
                run.look();
            }
        }
        CHECK.end();
    }

    private void step() {
        switch (random.nextInt(12)) {
            case 0:
            case 1:
            case 2:
                turn(random.nextInt(10) - 1, random.nextInt(10) - 1);
                break;
            case 3:
            case 4:
                join(random.nextInt(1 << now.length + 1));
                break;
            case 5:
            case 6:
                drop(random.nextInt(now.length + 2) - 1);
                break;
            case 7:
                undo();
                break;
            case 8:
                keep(random.nextInt(4) - 1);
                break;
            case 9:
                again(random.nextInt(4) - 1);
                break;
            case 10:
                if (random.nextInt(3) == 0) {
                    drawn(random.nextInt(10), random.nextInt(1000000));
                } else {
                    undo();
                }
                break;
            default:
                if (random.nextInt(3) == 0) {
                    told(random.nextInt(10));
                } else {
                    turn(random.nextInt(Math.max(1, now.length)), random.nextInt(Math.max(1, now.length)));
                }
        }
    }

    private void turn(int x, int y) {
        int n = now.length;
        int due;
        if (x == y) {
            due = -1;
        } else if (x < 0 || y < 0 || x >= n || y >= n) {
            due = -2;
        } else {
            act();
            now[x][y] = !now[x][y];
            now[y][x] = !now[y][x];
            due = now[x][y] ? x : y;
        }
        CHECK.due(where + "turn(" + x + ", " + y + ")", d.turn(x, y), due);
    }

    private void join(int beats) {
        int n = now.length;
        int due;
        if (beats >> n != 0) {
            due = -1;
        } else if (n == 0) {
            due = -2;
        } else if (n == 8) {
            due = -3;
        } else {
            act();
            boolean[][] more = new boolean[n + 1][n + 1];
            for (int x = 0; x < n; x++) {
                System.arraycopy(now[x], 0, more[x], 0, n);
                more[n][x] = (beats >> x & 1) == 1;
                more[x][n] = !more[n][x];
            }
            now = more;
            due = n + 1;
        }
        CHECK.due(where + "join(" + beats + ")", d.join(beats), due);
    }

    private void drop(int gone) {
        int n = now.length;
        int due;
        if (gone < 0 || gone >= n) {
            due = -2;
        } else if (n == 1) {
            due = -3;
        } else {
            act();
            boolean[][] less = new boolean[n - 1][n - 1];
            for (int x = 0; x < n - 1; x++) {
                for (int y = 0; y < n - 1; y++) {
                    less[x][y] = now[x < gone ? x : x + 1][y < gone ? y : y + 1];
                }
            }
            now = less;
            due = n - 1;
        }
        CHECK.due(where + "drop(" + gone + ")", d.drop(gone), due);
    }

    private void undo() {
        int due;
        if (now.length == 0) {
            due = -2;
        } else if (past.isEmpty()) {
            due = -3;
        } else {
            now = past.remove(past.size() - 1);
            due = past.size();
        }
        CHECK.due(where + "undo()", d.undo(), due);
    }

    private void keep(int k) {
        boolean due = now.length > 0 && (k == 0 || k == 1);
        if (due) {
            kept[k] = copy(now);
        }
        CHECK.due(where + "keep(" + k + ")", d.keep(k), due);
    }

    private void again(int k) {
        boolean due = (k == 0 || k == 1) && kept[k] != null;
        if (due) {
            act();
            now = copy(kept[k]);
        }
        CHECK.due(where + "again(" + k + ")", d.again(k), due);
    }

    private void drawn(int n, int seed) {
        int due = -1;
        if (n >= 1 && n <= 8) {
            forget();
            now = new boolean[n][n];
            long s = seed;
            for (int x = 0; x < n; x++) {
                for (int y = x + 1; y < n; y++) {
                    s = (1103 * s + 12345) % 1000003;
                    now[x][y] = s % 2 == 0;
                    now[y][x] = s % 2 != 0;
                }
            }
            due = n;
        }
        CHECK.due(where + "drawn(" + n + ", " + seed + ")", d.drawn(n, seed), due);
    }

    /** By a text; of fewer than two PLAYERS, or of nine, there is none. */
    private void told(int n) {
        StringBuilder text = new StringBuilder();
        boolean[][] beats = new boolean[n][n];
        for (int x = 0; x < n; x++) {
            for (int y = x + 1; y < n; y++) {
                boolean first = random.nextBoolean();
                beats[x][y] = first;
                beats[y][x] = !first;
                text.append(text.length() == 0 ? "" : ";");
                text.append((char) ('a' + (first ? x : y))).append('>').append((char) ('a' + (first ? y : x)));
            }
        }
        Check.say(d, text.toString());
        int got = d.round();
        if (n >= 2 && n <= 8) {
            forget();
            now = beats;
            CHECK.due(where + "round() of " + text, got, n);
        } else {
            CHECK.due(where + "round() of " + text, got <= -1000, true);
        }
        CHECK.due(where + "signs behind round()", d.count(3), 0);
    }

    private void act() {
        past.add(copy(now));
        if (past.size() > 10) {
            past.remove(0);
        }
    }

    private void forget() {
        past.clear();
        Arrays.fill(kept, null);
    }

    private static boolean[][] copy(boolean[][] beats) {
        boolean[][] copy = new boolean[beats.length][];
        for (int x = 0; x < beats.length; x++) {
            copy[x] = beats[x].clone();
        }
        return copy;
    }

    private void look() {
        int n = now.length;
        CHECK.due(where + "count(0)", d.count(0), n);
        CHECK.due(where + "count(4)", d.count(4), past.size());
        for (int x = 0; x < n; x++) {
            int beaten = 0;
            for (int y = 0; y < n; y++) {
                beaten |= now[x][y] ? 1 << y : 0;
            }
            CHECK.due(where + "beaten(" + x + ", all)", d.beaten(x, (1 << n) - 1), beaten);
        }
        for (int k = -1; k <= 2; k++) {
            boolean isKept = (k == 0 || k == 1) && kept[k] != null;
            CHECK.due(where + "alike(" + k + ", 1)", d.alike(k, 1), isKept ? unlike(kept[k]) : -1);
            if (n < 6) {
                int alike = isKept && new Oracle(now).waysTo(new Oracle(kept[k])) > 0 ? 1 : 0;
                CHECK.due(where + "alike(" + k + ", 0)", d.alike(k, 0), isKept ? alike : -1);
            }
            CHECK.due(where + "alike(" + k + ", 2)", d.alike(k, 2), -1);
            CHECK.due(where + "alike(" + k + ", -1)", d.alike(k, -1), -1);
        }
    }

    private int unlike(boolean[][] other) {
        int unlike = 0;
        for (int x = 0; x < Math.min(now.length, other.length); x++) {
            for (int y = 0; y < x; y++) {
                unlike += now[x][y] != other[x][y] ? 1 : 0;
            }
        }
        return unlike;
    }
}
