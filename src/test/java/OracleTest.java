import java.util.List;
import java.util.Random;

/** All calls that only ask, against the document's words tried out, on all small ROUNDS and many great ones. */
public final class OracleTest {
    private static final Check CHECK = new Check("OracleTest");

    public static void main(String[] args) {
        for (int n = 1; n <= 5; n++) {
            int pairs = n * (n - 1) / 2;
            for (int code = 0; code < 1 << pairs; code++) {
                DuelRound d = byCode(n, code);
                Oracle o = Oracle.of(d);
                for (int some = 0; some < 1 << n; some++) {
                    askOfSome(d, o, some, "n " + n + " code " + code);
                }
                askOfAll(d, o, "n " + n + " code " + code);
                if (n < 5 || code % 8 == 3) {
                    askFewest(d, o, 1023, "n " + n + " code " + code);
                }
            }
        }
        Random random = new Random(7);
        for (int i = 0; i < 120; i++) {
            int n = 6 + i % 3;
            int seed = random.nextInt(1000000);
            DuelRound d = new DuelRound();
            d.drawn(n, seed);
            bend(d, n, i);
            Oracle o = Oracle.of(d);
            String where = "drawn(" + n + ", " + seed + ") bent " + i;
            askOfSome(d, o, random.nextInt(1 << n), where);
            askOfSome(d, o, o.all(), where);
            askOfAll(d, o, where);
            askFewest(d, o, n == 8 ? 1 << i / 3 % 10 : 1023, where);
        }
        CHECK.end();
    }

    /** Some ROUNDS nearer to an order, where the kinds differ more. */
    private static void bend(DuelRound d, int n, int i) {
        if (i % 4 != 0) {
            return;
        }
        for (int x = 0; x < n; x++) {
            for (int y = x + 1; y < n; y++) {
                if (d.duel(x, y, 0) == 0 && (x * 5 + y * 3 + i) % 4 != 0) {
                    d.turn(x, y);
                }
            }
        }
    }

    static DuelRound byCode(int n, int code) {
        DuelRound d = new DuelRound();
        d.drawn(1, 0);
        int left = code;
        for (int x = 1; x < n; x++) {
            d.join(left & (1 << x) - 1);
            left >>= x;
        }
        return d;
    }

    private static void askOfSome(DuelRound d, Oracle o, int some, String where) {
        for (int kind = 0; kind < 10; kind++) {
            if (kind == 7) {
                continue;
            }
            CHECK.due(where + ": set(" + kind + ", " + some + ")", d.set(kind, some), o.set(kind, some));
        }
        askBalanced(d, o, some, where);
        for (int x = 0; x < o.n; x++) {
            CHECK.due(where + ": beaten(" + x + ", " + some + ")", d.beaten(x, some), o.beaten(x, some));
            CHECK.due(where + ": keeps(" + x + ", " + some + ")", d.keeps(x, some), o.set(8, o.beaters(x, some)));
            if (Oracle.in(some, x)) {
                askChain(d, o, x, some, where);
            }
        }
        CHECK.due(where + ": is(" + some + ", 0)", d.is(some, 0), o.isCovering(some, o.all()) ? 1 : 0);
        CHECK.due(where + ": is(" + some + ", 1)", d.is(some, 1), o.isKeeping(some, o.all()) ? 1 : 0);
        askWinner(d, o, some, where);
    }

    /** There is just one row of WEIGHTS, so those of SOME alone as a ROUND must be such. */
    private static void askBalanced(DuelRound d, Oracle o, int some, String where) {
        if (some == 0) {
            CHECK.due(where + ": set(7, 0)", d.set(7, 0), 0);
            return;
        }
        DuelRound part = new DuelRound();
        part.drawn(1, 0);
        int[] names = new int[o.n];
        int size = 0;
        for (int x = 0; x < o.n; x++) {
            if (!Oracle.in(some, x)) {
                continue;
            }
            int beats = 0;
            for (int i = 0; i < size; i++) {
                beats |= o.beats[x][names[i]] ? 1 << i : 0;
            }
            if (size > 0) {
                part.join(beats);
            }
            names[size++] = x;
        }
        int support = 0;
        int divisor = 0;
        for (int i = 0; i < size; i++) {
            int w = part.weight(i, 0);
            CHECK.due(where + ": weight below 0 of " + i + " in " + some, w < 0, false);
            support |= w > 0 ? 1 << names[i] : 0;
            for (int a = divisor, b = w; ; ) {
                if (b == 0) {
                    divisor = a;
                    break;
                }
                int rest = a % b;
                a = b;
                b = rest;
            }
            int gain = 0;
            for (int k = 0; k < size; k++) {
                if (k != i) {
                    gain += o.beats[names[i]][names[k]] ? part.weight(k, 0) : -part.weight(k, 0);
                }
            }
            CHECK.due(where + ": gain of " + i + " in " + some, gain > 0, false);
            CHECK.due(where + ": weight(" + i + ", 1) in " + some, part.weight(i, 1), gain);
        }
        CHECK.due(where + ": common divisor in " + some, divisor, 1);
        CHECK.due(where + ": set(7, " + some + ")", d.set(7, some), support);
    }

    private static void askChain(DuelRound d, Oracle o, int x, int some, String where) {
        List<Integer> chain = o.leastChain(x, some);
        String call = where + ": chain(" + x + ", " + some + ", ";
        CHECK.due(call + "-1)", d.chain(x, some, -1), chain == null ? -3 : chain.size());
        CHECK.due(call + "-2)", d.chain(x, some, -2), -1);
        if (chain == null) {
            CHECK.due(call + "0)", d.chain(x, some, 0), -3);
            return;
        }
        for (int i = 0; i <= 9; i++) {
            CHECK.due(call + i + ")", d.chain(x, some, i), i < chain.size() ? chain.get(i) : -1);
        }
    }

    private static void askWinner(DuelRound d, Oracle o, int some, String where) {
        List<Integer> row = new java.util.ArrayList<>();
        for (int x = 0; x < o.n; x++) {
            if (Oracle.in(some, x)) {
                row.add(x);
            }
        }
        for (int x = 0; x < o.n; x++) {
            if (!Oracle.in(some, x)) {
                row.add(x);
            }
        }
        CHECK.due(where + ": winner(" + some + ")", d.winner(some), Oracle.fitsCup(o.n) ? o.winnerOf(row) : -3);
    }

    private static void askOfAll(DuelRound d, Oracle o, String where) {
        askPairs(d, o, where);
        askKinds(d, o, where);
        askOrders(d, o, where);
        askCup(d, o, where);
        CHECK.due(where + ": selves()", d.selves(), o.waysTo(o));
    }

    private static void askPairs(DuelRound d, Oracle o, String where) {
        int cycles = 0;
        int unbeaten = 0;
        for (int x = 0; x < o.n; x++) {
            unbeaten |= o.beaters(x, o.all()) == 0 ? 1 << x : 0;
            for (int y = 0; y < o.n; y++) {
                if (x == y) {
                    CHECK.dueThrow(d, x, y, 0);
                    continue;
                }
                int least = -1;
                for (int z = o.n - 1; z >= 0; z--) {
                    least = o.beats[x][z] && o.beats[z][y] ? z : least;
                }
                cycles += o.beats[x][y] ? Integer.bitCount(o.beaten(y, o.all()) & o.beaters(x, o.all())) : 0;
                CHECK.due(where + ": duel(" + x + ", " + y + ", 1)", d.duel(x, y, 1), o.covers(x, y, o.all()) ? 1 : 0);
                CHECK.due(where + ": duel(" + x + ", " + y + ", 2)", d.duel(x, y, 2), least);
            }
        }
        CHECK.due(where + ": count(0)", d.count(0), o.n);
        CHECK.due(where + ": count(1)", d.count(1), o.n * (o.n - 1) / 2);
        CHECK.due(where + ": count(2)", d.count(2), cycles / 3);
        CHECK.due(where + ": count(5)", d.count(5), unbeaten);
    }

    private static void askKinds(DuelRound d, Oracle o, String where) {
        int[] sets = new int[9];
        for (int kind = 0; kind < 9; kind++) {
            sets[kind] = kind == 7 ? d.set(kind, o.all()) : o.set(kind, o.all());
        }
        int within = 0;
        int first = -1;
        for (int i = 8; i >= 0; i--) {
            for (int k = 8; k >= 0; k--) {
                boolean isWithin = i != k && (sets[i] | sets[k]) == sets[k];
                within += isWithin ? 1 : 0;
                first = isWithin && sets[i] != sets[k] ? 10 * i + k : first;
            }
        }
        CHECK.due(where + ": within(0)", d.within(0), within);
        CHECK.due(where + ": within(1)", d.within(1), first);
        for (int x = 0; x < o.n; x++) {
            int kinds = 0;
            for (int kind = 0; kind < 9; kind++) {
                int has = sets[kind] >> x & 1;
                kinds += has;
                CHECK.due(where + ": praised(" + x + ", " + kind + ")", d.praised(x, kind), has);
            }
            CHECK.due(where + ": praised(" + x + ", -1)", d.praised(x, -1), kinds);
        }
    }

    private static void askOrders(DuelRound d, Oracle o, String where) {
        List<List<Integer>> best = o.bestOrders(o.all());
        int turned = o.turnedOf(best.get(0));
        CHECK.due(where + ": best(0)", d.best(0), turned);
        CHECK.due(where + ": best(1)", d.best(1), best.size());
        for (int i = 0; i <= o.n; i++) {
            CHECK.due(where + ": best(" + (10 + i) + ")", d.best(10 + i), i < o.n ? best.get(0).get(i) : -1);
        }
        List<Integer> byWins = new java.util.ArrayList<>();
        for (int wins = o.n; wins >= 0; wins--) {
            for (int x = 0; x < o.n; x++) {
                if (Integer.bitCount(o.beaten(x, o.all())) == wins) {
                    byWins.add(x);
                }
            }
        }
        CHECK.due(where + ": byWins(0)", d.byWins(0), o.turnedOf(byWins));
        CHECK.due(where + ": byWins(1)", d.byWins(1), o.turnedOf(byWins) - turned);
    }

    private static void askCup(DuelRound d, Oracle o, String where) {
        if (!Oracle.fitsCup(o.n)) {
            CHECK.due(where + ": cup(0, -1)", d.cup(0, -1), -3);
            CHECK.due(where + ": cup(0, 0)", d.cup(0, 0), -3);
            return;
        }
        int[] rows = new int[o.n];
        List<List<Integer>> least = new java.util.ArrayList<>();
        for (int x = 0; x < o.n; x++) {
            least.add(null);
        }
        for (List<Integer> row : o.orders(o.all())) {
            int winner = o.winnerOf(row);
            rows[winner]++;
            if (least.get(winner) == null) {
                least.set(winner, row);
            }
        }
        for (int x = 0; x < o.n; x++) {
            String call = where + ": cup(" + x + ", ";
            CHECK.due(call + "-1)", d.cup(x, -1), rows[x]);
            for (int i = 0; i < o.n; i++) {
                CHECK.due(call + i + ")", d.cup(x, i), rows[x] == 0 ? -3 : least.get(x).get(i));
            }
            CHECK.due(call + o.n + ")", d.cup(x, o.n), -1);
        }
    }

    /** By turning all pairs and pairs of pairs; the dear kinds by set(), which is asked above. */
    private static void askFewest(DuelRound d, Oracle o, int kinds, String where) {
        DuelRound other = new DuelRound();
        for (int kind = 0; kind < 10; kind++) {
            if (!Oracle.in(kinds, kind)) {
                continue;
            }
            int[] fewest = new int[o.n];
            java.util.Arrays.fill(fewest, 3);
            lower(other, o, kind, 0, 0, fewest);
            for (int x = 0; x < o.n; x++) {
                CHECK.due(where + ": fewest(" + x + ", " + kind + ")", d.fewest(x, kind), fewest[x] == 3 ? -2 : fewest[x]);
            }
        }
    }

    private static void lower(DuelRound other, Oracle o, int kind, int turns, int from, int[] fewest) {
        int set = setOf(other, o, kind);
        for (int x = 0; x < o.n; x++) {
            if (Oracle.in(set, x)) {
                fewest[x] = Math.min(fewest[x], turns);
            }
        }
        if (turns == 2) {
            return;
        }
        for (int pair = from; pair < o.n * o.n; pair++) {
            if (pair / o.n < pair % o.n) {
                lower(other, o.turned(pair / o.n, pair % o.n), kind, turns + 1, pair + 1, fewest);
            }
        }
    }

    private static int setOf(DuelRound other, Oracle o, int kind) {
        if (kind != 7 && (o.n < 6 || kind < 5)) {
            return o.set(kind, o.all());
        }
        other.drawn(1, 0);
        for (int x = 1; x < o.n; x++) {
            other.join(o.beaten(x, (1 << x) - 1));
        }
        return other.set(kind, o.all());
    }
}
