/** Promises 11 to 19: sets, at the boundaries that they name. */
final class SetEdges {
    private static final int MIN = Integer.MIN_VALUE;
    private static final int MAX = Integer.MAX_VALUE;

    private SetEdges() {
    }

    static void ask(Sentences s) {
        set(s);
        setOthers(s);
        praised(s);
        praisedOthers(s);
        within(s);
        withinOthers(s);
        chain(s);
        chainRefused(s);
        best(s);
        bestOthers(s);
        byWins(s);
        byWinsOthers(s);
        weight(s);
        weightOthers(s);
        keeps(s);
        keepsOthers(s);
        is(s);
        isOthers(s);
    }

    private static DuelRound bent() {
        return Check.of(Rounds.BENT);
    }

    private static void set(Sentences s) {
        s.of("Promise 11: set", "SET of a kind (0 .. 9) of SOME.");
        int[] due = {15, 3, 11, 11, 11, 1, 11, 11, 11, 3};
        for (int kind = 0; kind <= 9; kind++) {
            s.due("set(" + kind + ", all)", bent().set(kind, 15), due[kind]);
            s.due("set(" + kind + ", nobody)", bent().set(kind, 0), 0);
            s.due("set(" + kind + ", one)", bent().set(kind, 8), 8);
            s.due("set(" + kind + ", two)", bent().set(kind, 9), 8);
            s.due("set(" + kind + ", all eight)", Rounds.line(8).set(kind, 255), 1);
        }
    }

    private static void setOthers(Sentences s) {
        s.of("Promise 11: set", "NONE: others, no ROUND.");
        DuelRound d = bent();
        for (int kind : new int[] {-1, -2, 10, 11, MIN, MAX}) {
            s.due("set(" + kind + ", 15)", d.set(kind, 15), -1);
            s.due("set(" + kind + ", 0)", d.set(kind, 0), -1);
        }
        for (int kind = 0; kind <= 9; kind++) {
            s.due("set(" + kind + ", 16)", d.set(kind, 16), -1);
            s.due("set(" + kind + ", -1)", d.set(kind, -1), -1);
            s.due("set(" + kind + ", 0) without a ROUND", new DuelRound().set(kind, 0), -1);
            s.due("set(" + kind + ", 1) without a ROUND", new DuelRound().set(kind, 1), -1);
        }
        s.due("set(10, 0) without a ROUND", new DuelRound().set(10, 0), -1);
    }

    private static void praised(Sentences s) {
        s.of("Promise 12: praised", "How many kinds (0 .. 8) have a PLAYER in their SET of all (what NONE), "
                + "whether that of kind what has (1, 0).");
        int[] kinds = {9, 8, 1, 7};
        for (int x = 0; x < 4; x++) {
            s.due("praised(" + x + ", -1)", bent().praised(x, -1), kinds[x]);
            for (int kind = 0; kind <= 8; kind++) {
                s.due("praised(" + x + ", " + kind + ")", bent().praised(x, kind), bent().set(kind, 15) >> x & 1);
            }
        }
        s.due("by no kind", Rounds.line(8).praised(7, -1), 0);
        s.due("by all kinds", Rounds.line(8).praised(0, -1), 9);
        s.due("one alone", Rounds.alone().praised(0, -1), 9);
        // The kind 9 has a, too, but is not counted.
        s.due("without the kind 9", Check.of(Rounds.LINE).praised(0, -1), 9);
    }

    private static void praisedOthers(Sentences s) {
        s.of("Promise 12: praised", "NONE: others.");
        for (int what : new int[] {9, 10, -2, MIN, MAX}) {
            s.due("praised(0, " + what + ")", bent().praised(0, what), -1);
        }
        for (int x : new int[] {4, 8, -1, MIN, MAX}) {
            s.due("praised(" + x + ", -1)", bent().praised(x, -1), -1);
            s.due("praised(" + x + ", 0)", bent().praised(x, 0), -1);
        }
        s.due("no ROUND", new DuelRound().praised(0, -1), -1);
    }

    private static void within(Sentences s) {
        s.of("Promise 13: within", "Pairs of kinds (0 .. 8) i, k, unlike, with SET i within SET k, of all: "
                + "how many (what 0), the first where it is less, as 10 i and k (1; NONE).");
        DuelRound line = Rounds.line(8);
        s.due("all SETS alike: all pairs", line.within(0), 72);
        s.due("all SETS alike: none is less", line.within(1), -1);
        s.due("one alone: all pairs", Rounds.alone().within(0), 72);
        s.due("one alone: none is less", Rounds.alone().within(1), -1);
        s.due("ring: all pairs", Check.of(Rounds.RING).within(0), 72);
        // 15, 3, six times 11, 1: MOST is within TOP and the six, SLATER within all, the six in one another and TOP.
        s.due("bent: pairs", bent().within(0), 7 + 6 * 6 + 8);
        s.due("bent: MOST is less than TOP", bent().within(1), 10);
        // 63, 41, 63, 63, 63, 40, 63, 61, 63: alike are 6; 41 is within these and 61, 40 in all but itself, 61 in the 6.
        DuelRound six = Check.of(Rounds.ONE_WITHOUT_WEIGHT);
        s.due("six: pairs", six.within(0), 6 * 5 + 7 + 8 + 6);
        s.due("six: MOST is less than TOP", six.within(1), 10);
        // All SETS are the first three.
        DuelRound tail = Check.of(Rounds.CYCLE + ";a>d;b>d;c>d");
        s.due("a tail: all pairs", tail.within(0), 72);
        s.due("a tail: none is less", tail.within(1), -1);
    }

    private static void withinOthers(Sentences s) {
        s.of("Promise 13: within", "NONE: others, no ROUND.");
        for (int what : new int[] {2, 3, -1, -2, MIN, MAX}) {
            s.due("within(" + what + ")", bent().within(what), -1);
        }
        s.due("no ROUND: within(0)", new DuelRound().within(0), -1);
        s.due("no ROUND: within(1)", new DuelRound().within(1), -1);
    }

    private static void chain(Sentences s) {
        s.of("Promise 14: chain", "The least CHAIN of SOME that x is first of (compared from the first on; "
                + "one that another one goes on from is less): its length (i NONE), the i-th.");
        dueChain(s, Rounds.LINE, 15, 0);
        dueChain(s, Rounds.LINE, 14, 1);
        dueChain(s, Rounds.LINE, 8, 3);
        dueChain(s, Rounds.CYCLE, 7, 0, 1);
        dueChain(s, Rounds.CYCLE, 7, 2, 0);
        // b, c is topped by a, b, c, d is not; b, d is a CHAIN, too, but not less.
        dueChain(s, Rounds.BENT, 15, 1, 2, 3);
        dueChain(s, Rounds.BENT, 11, 1, 3);
        dueChain(s, Rounds.BENT, 15, 3, 0);
        dueChain(s, Rounds.RING, 127, 0, 1, 2);
        dueChain(s, Rounds.RING, 127, 6, 0, 1);
        s.due("the first of eight", Rounds.line(8).chain(0, 255, -1), 1);
        s.due("one alone", Rounds.alone().chain(0, 1, 0), 0);
    }

    private static void dueChain(Sentences s, String round, int some, int... chain) {
        DuelRound d = Check.of(round);
        String call = "chain(" + chain[0] + ", " + some + ", ";
        s.due(call + "-1) of " + round, d.chain(chain[0], some, -1), chain.length);
        for (int i = 0; i < chain.length; i++) {
            s.due(call + i + ") of " + round, d.chain(chain[0], some, i), chain[i]);
        }
        s.due(call + chain.length + ") of " + round, d.chain(chain[0], some, chain.length), -1);
    }

    private static void chainRefused(Sentences s) {
        s.of("Promise 14: chain", "-3: there is none; NONE: others.");
        DuelRound d = bent();
        s.due("c has none", d.chain(2, 15, -1), -3);
        s.due("c has no first one", d.chain(2, 15, 0), -3);
        s.due("c has no second one", d.chain(2, 15, 1), -3);
        s.due("d of c and d has none", d.chain(3, 12, -1), -3);
        s.due("c of c and d has one", d.chain(2, 12, -1), 1);
        s.due("the last of eight has none", Rounds.line(8).chain(7, 255, -1), -3);
        for (int x : new int[] {4, 8, 32, -1, MIN, MAX}) {
            s.due("chain(" + x + ", 15, -1)", d.chain(x, 15, -1), -1);
        }
        for (int some : new int[] {16, 31, -1, MIN, MAX}) {
            s.due("chain(0, " + some + ", -1)", d.chain(0, some, -1), -1);
        }
        s.due("x is not of SOME", d.chain(0, 14, -1), -1);
        s.due("x is not of nobody", d.chain(0, 0, -1), -1);
        for (int i : new int[] {2, 3, 8, MAX, -2, MIN}) {
            s.due("chain(0, 15, " + i + ")", d.chain(0, 15, i), -1);
        }
        s.due("no ROUND", new DuelRound().chain(0, 1, -1), -1);
    }

    private static void best(Sentences s) {
        s.of("Promise 15: best", "BEST ORDERS of all: the number of their TURNED ARROWS (what 0), "
                + "how many ORDERS are BEST (1), the i-th PLAYER of the least one (10 + i).");
        dueBest(s, Rounds.alone(), 0, 1, 0);
        dueBest(s, Check.of("b>a"), 0, 1, 1, 0);
        dueBest(s, Rounds.line(8), 0, 1, 0, 1, 2, 3, 4, 5, 6, 7);
        dueBest(s, Check.of(Rounds.CYCLE), 1, 3, 0, 1, 2);
        dueBest(s, Check.of("b>a;c>b;a>c"), 1, 3, 0, 2, 1);
        dueBest(s, bent(), 1, 1, 0, 1, 2, 3);
        // Each asked first of a new object, and behind an act.
        s.due("how many, asked first", Check.of(Rounds.CYCLE).best(1), 3);
        s.due("the second, asked first", Check.of("b>a").best(11), 0);
        DuelRound turned = Rounds.line(3);
        s.due("a row", turned.best(1), 1);
        turned.turn(0, 2);
        s.due("a cycle by turn()", turned.best(1), 3);
        turned.turn(0, 1);
        s.due("the first behind turn()", turned.best(10), 1);
        DuelRound ring = Check.of(Rounds.RING);
        s.due("ring: TURNED ones", ring.best(0), 7);
        s.due("ring: BEST ORDERS", ring.best(1), 21);
        s.due("ring: the first", ring.best(10), 0);
        DuelRound eight = Check.of(Rounds.SMALL_KEEPING);
        s.due("eight: TURNED ones", eight.best(0), 8);
        s.due("eight: BEST ORDERS", eight.best(1), 25);
        s.due("eight: the first", eight.best(10), 2);
    }

    private static void dueBest(Sentences s, DuelRound d, int turned, int orders, int... least) {
        s.due("best(0) of " + least.length, d.best(0), turned);
        s.due("best(1) of " + least.length, d.best(1), orders);
        for (int i = 0; i < least.length; i++) {
            s.due("best(" + (10 + i) + ") of " + least.length, d.best(10 + i), least[i]);
        }
        s.due("best() behind the last of " + least.length, d.best(10 + least.length), -1);
    }

    private static void bestOthers(Sentences s) {
        s.of("Promise 15: best", "NONE: others, no ROUND.");
        for (int what : new int[] {-1, 2, 3, 9, 14, 15, 18, MIN, MAX}) {
            s.due("best(" + what + ") of four", bent().best(what), -1);
        }
        s.due("best(18) of eight", Rounds.line(8).best(18), -1);
        s.due("best(17) of eight", Rounds.line(8).best(17), 7);
        s.due("best(11) of one", Rounds.alone().best(11), -1);
        for (int what : new int[] {0, 1, 10}) {
            s.due("no ROUND: best(" + what + ")", new DuelRound().best(what), -1);
        }
    }

    private static void byWins(Sentences s) {
        s.of("Promise 16: byWins", "TURNED ARROWS, if the PLAYERS stand by how many they beat, the most first, "
                + "of like ones the lesser (what 0); how many more than BEST ones that is (1).");
        dueByWins(s, Rounds.alone(), 0, 0);
        dueByWins(s, Rounds.line(8), 0, 0);
        dueByWins(s, Check.of("b>a"), 0, 0);
        dueByWins(s, bent(), 1, 0);
        // Like ones: a, b, c. One ARROW is TURNED, or two.
        dueByWins(s, Check.of(Rounds.CYCLE), 1, 0);
        dueByWins(s, Check.of("b>a;c>b;a>c"), 2, 1);
        // a, then the like ones b, c, d: c beats b, and d beats c.
        dueByWins(s, Check.of("a>b;a>c;a>d;c>b;b>d;d>c"), 2, 1);
        // e, a, c, d, b: d beats e, c beats a, b beats c; BEST are two.
        dueByWins(s, Check.of(Rounds.FIVE), 3, 1);
    }

    private static void dueByWins(Sentences s, DuelRound d, int turned, int more) {
        s.due("byWins(0) of " + d.count(0), d.byWins(0), turned);
        s.due("byWins(1) of " + d.count(0), d.byWins(1), more);
    }

    private static void byWinsOthers(Sentences s) {
        s.of("Promise 16: byWins", "NONE: others, no ROUND.");
        for (int what : new int[] {-1, -2, 2, 3, MIN, MAX}) {
            s.due("byWins(" + what + ")", bent().byWins(what), -1);
        }
        s.due("no ROUND: byWins(0)", new DuelRound().byWins(0), -1);
        s.due("no ROUND: byWins(1)", new DuelRound().byWins(1), -1);
    }

    private static void weight(Sentences s) {
        s.of("Promise 17: weight", "By WEIGHTS of all, that of x (what 0), those of all whom x beats less those of all "
                + "who beat x (1; 0 or below).");
        DuelRound line = Rounds.line(8);
        s.due("the first", line.weight(0, 0), 1);
        s.due("the first gains nothing", line.weight(0, 1), 0);
        for (int x = 1; x < 8; x++) {
            s.due("weight(" + x + ", 0)", line.weight(x, 0), 0);
            s.due("weight(" + x + ", 1)", line.weight(x, 1), -1);
        }
        DuelRound behind = Check.of(Rounds.CYCLE + ";a>d;b>d;c>d");
        s.due("behind a cycle", behind.weight(3, 0), 0);
        s.due("behind a cycle, three less", behind.weight(3, 1), -3);
        s.due("in a cycle", behind.weight(2, 1), 0);
        DuelRound eight = Check.of(Rounds.SMALL_KEEPING);
        int[] weights = {1, 7, 7, 5, 9, 1, 5, 0};
        for (int x = 0; x < 8; x++) {
            s.due("eight: weight(" + x + ", 0)", eight.weight(x, 0), weights[x]);
            s.due("eight: weight(" + x + ", 1)", eight.weight(x, 1), x == 7 ? -21 : 0);
        }
        s.due("one alone", Rounds.alone().weight(0, 0), 1);
        s.due("one alone gains nothing", Rounds.alone().weight(0, 1), 0);
    }

    private static void weightOthers(Sentences s) {
        s.of("Promise 17: weight", "NOTHING: no such PLAYER, others.");
        for (int x : new int[] {4, 8, 32, -1, MIN, MAX}) {
            s.due("weight(" + x + ", 0)", bent().weight(x, 0), MIN);
            s.due("weight(" + x + ", 1)", bent().weight(x, 1), MIN);
        }
        for (int what : new int[] {-1, 2, 3, MIN, MAX}) {
            s.due("weight(0, " + what + ")", bent().weight(0, what), MIN);
        }
        s.due("no ROUND", new DuelRound().weight(0, 0), MIN);
    }

    private static void keeps(Sentences s) {
        s.of("Promise 18: keeps", "KEEPING of all who beat x, of SOME (x need not be of SOME).");
        DuelRound d = bent();
        s.due("d beats a", d.keeps(0, 15), 8);
        s.due("a is not of SOME", d.keeps(0, 14), 8);
        s.due("d is not of SOME", d.keeps(0, 7), 0);
        s.due("nobody is", d.keeps(0, 0), 0);
        s.due("a alone is", d.keeps(0, 1), 0);
        s.due("b and c beat d, b beats c", d.keeps(3, 15), 2);
        s.due("c alone of these", d.keeps(3, 13), 4);
        s.due("nobody beats the first", Rounds.line(8).keeps(0, 255), 0);
        s.due("seven beat the last", Rounds.line(8).keeps(7, 255), 1);
        DuelRound ring = Check.of(Rounds.RING);
        s.due("a cycle beats a", ring.keeps(0, 127), 8 | 32 | 64);
        s.due("two of it", ring.keeps(0, 8 | 32), 8);
        s.due("one alone", Rounds.alone().keeps(0, 1), 0);
    }

    private static void keepsOthers(Sentences s) {
        s.of("Promise 18: keeps", "NONE: others.");
        for (int x : new int[] {4, 8, 32, -1, MIN, MAX}) {
            s.due("keeps(" + x + ", 15)", bent().keeps(x, 15), -1);
            s.due("keeps(" + x + ", 0)", bent().keeps(x, 0), -1);
        }
        for (int some : new int[] {16, 31, -1, MIN, MAX}) {
            s.due("keeps(0, " + some + ")", bent().keeps(0, some), -1);
        }
        s.due("no ROUND", new DuelRound().keeps(0, 0), -1);
    }

    private static void is(Sentences s) {
        s.of("Promise 19: is", "Whether a set is COVERING (what 0: 1, 0), KEEPING (1), of all.");
        DuelRound d = bent();
        for (int set = 0; set < 16; set++) {
            s.due("is(" + set + ", 0)", d.is(set, 0), set == 11 || set == 15 ? 1 : 0);
            s.due("is(" + set + ", 1)", d.is(set, 1), set == 11 || set == 15 ? 1 : 0);
        }
        DuelRound eight = Rounds.line(8);
        s.due("eight: nobody", eight.is(0, 0) + eight.is(0, 1), 0);
        s.due("eight: the first", eight.is(1, 0) + eight.is(1, 1), 2);
        s.due("eight: the last", eight.is(128, 0) + eight.is(128, 1), 0);
        s.due("eight: all but the first", eight.is(254, 0) + eight.is(254, 1), 0);
        s.due("eight: all", eight.is(255, 0) + eight.is(255, 1), 2);
        // COVERING, but not KEEPING, and the other way round.
        DuelRound both = Check.of(Rounds.SMALL_KEEPING);
        s.due("the first seven are not COVERING", both.is(127, 0), 0);
        s.due("the first seven are KEEPING", both.is(127, 1), 1);
        s.due("one alone", Rounds.alone().is(1, 0) + Rounds.alone().is(1, 1), 2);
    }

    private static void isOthers(Sentences s) {
        s.of("Promise 19: is", "NONE: others.");
        for (int what : new int[] {2, 3, -1, MIN, MAX}) {
            s.due("is(15, " + what + ")", bent().is(15, what), -1);
            s.due("is(0, " + what + ")", bent().is(0, what), -1);
        }
        for (int set : new int[] {16, 31, 256, -1, MIN, MAX}) {
            s.due("is(" + set + ", 0)", bent().is(set, 0), -1);
            s.due("is(" + set + ", 1)", bent().is(set, 1), -1);
        }
        s.due("no ROUND, a set of others", new DuelRound().is(1, 0), -1);
    }
}
