/** Term 2: the SETS by kinds, at the boundaries that it names. */
final class KindEdges {
    private static final String TERMS = "Terms";

    private KindEdges() {
    }

    static void ask(Sentences s) {
        nobody(s);
        top(s);
        most(s);
        uncovered(s);
        uncoveredAgain(s);
        banks(s);
        slater(s);
        leastCovering(s);
        balanced(s);
        keeping(s);
        cup(s);
        s.noCase(TERMS, "2. ");
    }

    private static void dueSet(Sentences s, String round, int kind, int some, int want) {
        s.due("set(" + kind + ", " + some + ") of " + round, Check.of(round).set(kind, some), want);
    }

    private static void nobody(Sentences s) {
        s.of(TERMS, "SETS of SOME (the empty one of nobody), by kinds:");
        for (int kind = 0; kind < 10; kind++) {
            s.due("set(" + kind + ", 0) of one", Rounds.alone().set(kind, 0), 0);
            s.due("set(" + kind + ", 1) of one", Rounds.alone().set(kind, 1), 1);
            s.due("set(" + kind + ", 0) of seven", Check.of(Rounds.RING).set(kind, 0), 0);
            s.due("set(" + kind + ", 64) of seven", Check.of(Rounds.RING).set(kind, 64), 64);
        }
    }

    private static void top(Sentences s) {
        s.of(TERMS, "0 TOP: the least set, not empty, each of which beats all others.");
        dueSet(s, Rounds.LINE, 0, 15, 1);
        dueSet(s, Rounds.LINE, 0, 14, 2);
        dueSet(s, Rounds.LINE, 0, 8, 8);
        dueSet(s, Rounds.CYCLE, 0, 7, 7);
        dueSet(s, Rounds.CYCLE, 0, 3, 1);
        dueSet(s, Rounds.CYCLE, 0, 5, 4);
        // One behind a cycle, one ahead of it, one who beats just one of it.
        dueSet(s, Rounds.CYCLE + ";a>d;b>d;c>d", 0, 15, 7);
        dueSet(s, Rounds.CYCLE + ";d>a;d>b;d>c", 0, 15, 8);
        dueSet(s, Rounds.CYCLE + ";a>d;b>d;d>c", 0, 15, 15);
        s.due("of eight in a row", Rounds.line(8).set(0, 255), 1);
    }

    private static void most(Sentences s) {
        s.of(TERMS, "1 MOST: those who beat the most.");
        dueSet(s, Rounds.LINE, 1, 15, 1);
        dueSet(s, Rounds.CYCLE, 1, 7, 7);
        dueSet(s, Rounds.BENT, 1, 15, 3);
        // Of these alone each beats one.
        dueSet(s, Rounds.BENT, 1, 13, 13);
        dueSet(s, Rounds.BENT, 1, 14, 2);
        dueSet(s, Rounds.RING, 1, 127, 127);
        s.due("one alone beats nobody", Rounds.line(8).set(1, 128), 128);
    }

    private static void uncovered(Sentences s) {
        s.of(TERMS, "2 UNCOVERED: x COVERS y, if x beats y and all whom y beats; those whom nobody COVERS.");
        // Who beats nobody is COVERED by each who beats that one.
        dueSet(s, "a>b", 2, 3, 1);
        dueSet(s, Rounds.CYCLE, 2, 5, 4);
        dueSet(s, Rounds.LINE, 2, 15, 1);
        // b beats c and d, whom c beats; a beats c, but not d.
        dueSet(s, Rounds.BENT, 2, 15, 11);
        // All whom y beats, but not y.
        dueSet(s, Rounds.CYCLE, 2, 7, 7);
        dueSet(s, Rounds.RING, 2, 127, 127);
        DuelRound d = Check.of(Rounds.BENT);
        s.due("b COVERS c", d.duel(1, 2, 1), 1);
        s.due("a COVERS c", d.duel(0, 2, 1), 0);
        s.due("c COVERS b", d.duel(2, 1, 1), 0);
        s.due("of SOME without d a COVERS c", d.set(2, 7), 1);
    }

    private static void uncoveredAgain(Sentences s) {
        s.of(TERMS, "3 UNCOVERED of these, of those, and so on, till it stays.");
        // Stays at once, behind one time, two, four.
        dueSet(s, Rounds.CYCLE, 3, 7, 7);
        dueSet(s, Rounds.BENT, 3, 15, 11);
        dueSet(s, Rounds.FIVE, 2, 31, 29);
        dueSet(s, Rounds.FIVE, 3, 31, 28);
        dueSet(s, Rounds.FOUR_TIMES, 2, 127, 123);
        dueSet(s, Rounds.FOUR_TIMES, 2, 123, 121);
        dueSet(s, Rounds.FOUR_TIMES, 2, 121, 57);
        dueSet(s, Rounds.FOUR_TIMES, 2, 57, 49);
        dueSet(s, Rounds.FOUR_TIMES, 2, 49, 49);
        dueSet(s, Rounds.FOUR_TIMES, 3, 127, 49);
    }

    private static void banks(Sentences s) {
        s.of(TERMS, "4 BANKS: those who are first in a CHAIN: a row of unlike PLAYERS, each of whom beats all behind, "
                + "such that nobody (of SOME) beats all of it.");
        // A CHAIN of one, if nobody of SOME beats that one.
        dueSet(s, Rounds.LINE, 4, 15, 1);
        dueSet(s, Rounds.LINE, 4, 14, 2);
        dueSet(s, Rounds.BENT, 4, 12, 4);
        dueSet(s, Rounds.BENT, 4, 15, 11);
        dueSet(s, Rounds.CYCLE, 4, 7, 7);
        // UNCOVERED, but not first in a CHAIN.
        dueSet(s, Rounds.NOT_BANKS, 2, 127, 115);
        dueSet(s, Rounds.NOT_BANKS, 4, 127, 83);
        DuelRound d = Check.of(Rounds.NOT_BANKS);
        s.due("f has no CHAIN", d.chain(5, 127, -1), -3);
        s.due("f of f alone has one", d.chain(5, 32, -1), 1);
        // All eight in one row: no CHAIN of a is less than a alone.
        s.due("eight in a row", Rounds.line(8).chain(0, 255, -1), 1);
    }

    private static void slater(Sentences s) {
        s.of(TERMS, "5 SLATER: those who are first in an ORDER (a row of all) that is BEST: "
                + "with the fewest ARROWS from a later one to one ahead (TURNED ones).");
        // No TURNED one; one, in one way, in three ways; as many as seven.
        dueSet(s, Rounds.LINE, 5, 15, 1);
        dueSet(s, "b>a", 5, 3, 2);
        dueSet(s, Rounds.BENT, 5, 15, 1);
        dueSet(s, Rounds.CYCLE, 5, 7, 7);
        dueSet(s, Rounds.RING, 5, 127, 127);
        dueSet(s, Rounds.FIVE, 5, 31, 16);
        dueSet(s, Rounds.SMALL_KEEPING, 5, 255, 84);
        s.due("TURNED ones of a row", Check.of(Rounds.LINE).best(0), 0);
        s.due("TURNED ones of the ring", Check.of(Rounds.RING).best(0), 7);
    }

    private static void leastCovering(Sentences s) {
        s.of(TERMS, "6 LEAST COVERING: a set is COVERING, if each x not in it is COVERED (by one of it) in the set "
                + "and x together, and the set is not empty; the COVERING one with the fewest PLAYERS (there is just one).");
        DuelRound line = Check.of(Rounds.LINE);
        s.due("the empty set", line.is(0, 0), 0);
        s.due("all, with no x not in it", line.is(15, 0), 1);
        s.due("one who beats all", line.is(1, 0), 1);
        s.due("more than the fewest", line.is(3, 0), 1);
        s.due("without the first", line.is(14, 0), 0);
        s.due("the empty set of one", Rounds.alone().is(0, 0), 0);
        s.due("one alone", Rounds.alone().is(1, 0), 1);
        dueSet(s, Rounds.LINE, 6, 15, 1);
        dueSet(s, Rounds.CYCLE, 6, 7, 7);
        dueSet(s, Rounds.RING, 6, 127, 127);
        // a is not COVERED of all, but it is in c, d, e and a together.
        dueSet(s, Rounds.SMALL_COVERING, 3, 63, 63);
        dueSet(s, Rounds.SMALL_COVERING, 6, 63, 28);
        s.due("c, d, e", Check.of(Rounds.SMALL_COVERING).is(28, 0), 1);
        s.due("c, d", Check.of(Rounds.SMALL_COVERING).is(12, 0), 0);
    }

    private static void balanced(Sentences s) {
        s.of(TERMS, "7 BALANCED: WEIGHTS are whole numbers 0 or more, not all 0, without a common divisor, such that "
                + "for each x those of all whom x beats are together no more than those of all who beat x "
                + "(there is just one such row); those with a WEIGHT above 0.");
        dueWeights(s, Rounds.LINE, 1, 1, 0, 0, 0);
        dueWeights(s, Rounds.CYCLE, 7, 1, 1, 1);
        dueWeights(s, Rounds.BENT, 11, 1, 1, 0, 1);
        dueWeights(s, Rounds.UNLIKE_WEIGHTS, 31, 1, 1, 3, 3, 1);
        dueWeights(s, Rounds.ONE_WITHOUT_WEIGHT, 61, 1, 0, 3, 1, 1, 3);
        dueWeights(s, Rounds.SMALL_KEEPING, 127, 1, 7, 7, 5, 9, 1, 5, 0);
        dueWeights(s, Rounds.RING, 127, 1, 1, 1, 1, 1, 1, 1);
        dueWeights(s, "a>b;c>a;a>d;c>b;b>d;d>c", 13, 1, 0, 1, 1);
        dueWeights(s, "b>a;a>c;d>a;e>a;a>f;b>c;d>b;b>e;f>b;c>d;c>e;f>c;d>e;d>f;f>e", 47, 1, 1, 3, 3, 0, 1);
        dueWeights(s, Rounds.COMMON_DIVISOR, 127, 1, 1, 1, 1, 1, 1, 3, 0);
        s.due("one alone", Rounds.alone().weight(0, 0), 1);
        s.due("one alone gains nothing", Rounds.alone().weight(0, 1), 0);
    }

    private static void dueWeights(Sentences s, String round, int set, int... weights) {
        DuelRound d = Check.of(round);
        int all = (1 << weights.length) - 1;
        s.due("set(7, all) of " + round, d.set(7, all), set);
        for (int x = 0; x < weights.length; x++) {
            s.due("weight(" + x + ", 0) of " + round, d.weight(x, 0), weights[x]);
            int gain = 0;
            for (int y = 0; y < weights.length; y++) {
                gain += y == x ? 0 : d.duel(x, y, 0) == 1 ? weights[y] : -weights[y];
            }
            s.due("weight(" + x + ", 1) of " + round, d.weight(x, 1), gain);
            s.due(x + " gains of " + round, gain > 0, false);
        }
    }

    private static void keeping(Sentences s) {
        s.of(TERMS, "8 KEEPING: a set, not empty, is KEEPING, if for each x of it KEEPING (this SET, kind 8) of all "
                + "who beat x is within it; all least ones (with no KEEPING one within) together.");
        DuelRound line = Check.of(Rounds.LINE);
        s.due("the empty set", line.is(0, 1), 0);
        s.due("one whom nobody beats", line.is(1, 1), 1);
        s.due("that one and another", line.is(9, 1), 1);
        s.due("without that one", line.is(14, 1), 0);
        s.due("one whom nobody beats, the last", Check.of("b>a").is(2, 1), 1);
        s.due("all", line.is(15, 1), 1);
        s.due("one alone", Rounds.alone().is(1, 1), 1);
        s.due("the empty set of one", Rounds.alone().is(0, 1), 0);
        dueSet(s, Rounds.LINE, 8, 15, 1);
        dueSet(s, Rounds.LINE, 8, 12, 4);
        dueSet(s, Rounds.CYCLE, 8, 7, 7);
        dueSet(s, Rounds.RING, 8, 127, 127);
        dueSet(s, Rounds.SMALL_COVERING, 8, 63, 28);
        // Those who beat h are the ring, and of it those who beat one are a cycle.
        DuelRound ring = Check.of(Rounds.RING);
        ring.join(0);
        s.due("the ring and one behind it", ring.set(8, 255), 127);
        // No less set is COVERING, but a less one is KEEPING.
        dueSet(s, Rounds.SMALL_KEEPING, 6, 255, 255);
        dueSet(s, Rounds.SMALL_KEEPING, 8, 255, 127);
        s.due("the first seven", Check.of(Rounds.SMALL_KEEPING).is(127, 1), 1);
        s.due("six of these", Check.of(Rounds.SMALL_KEEPING).is(63, 1), 0);
    }

    private static void cup(Sentences s) {
        s.of(TERMS, "9 CUP: those who win by some ROW: an order of all; the first two duel, the next two, and so on; "
                + "then who won the first of these and who won the next one, and so on, till one is left "
                + "(of 1, 2, 4, 8 PLAYERS; else nobody).");
        DuelRound d = Rounds.line(8);
        int some = 0;
        for (int size = 1; size <= 8; size++) {
            some |= 1 << 8 - size;
            boolean fits = size == 1 || size == 2 || size == 4 || size == 8;
            s.due("set(9, the last " + size + ") of eight", d.set(9, some), fits ? 1 << 8 - size : 0);
        }
        dueSet(s, Rounds.BENT, 9, 15, 3);
        dueSet(s, Rounds.BENT, 9, 7, 0);
        dueSet(s, Rounds.RING, 9, 127, 0);
        // d, e, f, g are as a, b, c, d of BENT are.
        dueSet(s, Rounds.RING, 9, 120, 24);
        dueSet(s, Rounds.SMALL_KEEPING, 9, 255, 255);
        dueSet(s, Rounds.SIX_WINNERS, 9, 255, 246);
        for (int seed = 0; seed < 100; seed++) {
            DuelRound eight = new DuelRound();
            eight.drawn(8, seed);
            int winners = eight.set(9, 255);
            for (int x = 0; x < 8; x++) {
                s.due("set(9, 255) of drawn(8, " + seed + ") has " + x, winners >> x & 1, eight.cup(x, -1) > 0 ? 1 : 0);
            }
        }
        // Who beats two others only can't win three times.
        s.due("who beats two of eight", Check.of("a>b;c>a;a>d;e>a;f>a;g>a;h>a;b>c;b>d;b>e;b>f;b>g;b>h;c>d;c>e;c>f;c>g;c>h;"
                + "d>e;d>f;d>g;d>h;e>f;e>g;e>h;f>g;f>h;g>h").set(9, 255) & 1, 0);
    }
}
