/** Promises 1 to 10: a new object, THE TEXT, the ROUND, at the boundaries that they name. */
final class RoundEdges {
    private static final int MIN = Integer.MIN_VALUE;
    private static final int MAX = Integer.MAX_VALUE;

    private RoundEdges() {
    }

    static void ask(Sentences s) {
        newObject(s);
        sign(s);
        signFull(s);
        end(s);
        endRefused(s);
        round(s);
        roundFault(s);
        drawn(s);
        drawnRefused(s);
        duel(s);
        duelCovers(s);
        duelBetween(s);
        duelThrows(s);
        duelOthers(s);
        beaten(s);
        beatenOthers(s);
        turn(s);
        turnRefused(s);
        join(s);
        joinRefused(s);
        drop(s);
        dropRefused(s);
    }

    private static void newObject(Sentences s) {
        s.of("Promise 1: A new object", "No ROUND.");
        DuelRound d = new DuelRound();
        for (int what = 0; what <= 5; what++) {
            s.due("count(" + what + ")", d.count(what), 0);
        }
        s.dueThrow(d, 0, 1, 0);
        s.due("beaten(0, 0)", d.beaten(0, 0), -1);
        s.due("turn(0, 1)", d.turn(0, 1), -2);
        s.due("join(0)", d.join(0), -2);
        s.due("drop(0)", d.drop(0), -2);
        for (int kind = 0; kind < 10; kind++) {
            s.due("set(" + kind + ", 0)", d.set(kind, 0), -1);
            s.due("fewest(0, " + kind + ")", d.fewest(0, kind), -1);
        }
        s.due("praised(0, -1)", d.praised(0, -1), -1);
        s.due("within(0)", d.within(0), -1);
        s.due("chain(0, 0, -1)", d.chain(0, 0, -1), -1);
        s.due("best(0)", d.best(0), -1);
        s.due("best(1)", d.best(1), -1);
        s.due("best(10)", d.best(10), -1);
        s.due("byWins(0)", d.byWins(0), -1);
        s.due("weight(0, 0)", d.weight(0, 0), MIN);
        s.due("keeps(0, 0)", d.keeps(0, 0), -1);
        s.due("cup(0, -1)", d.cup(0, -1), -1);
        s.due("judge()", d.judge(), -2);
        s.due("judged(0)", d.judged(0), -1);
        s.due("selves()", d.selves(), -1);
        s.due("undo()", d.undo(), -2);
        for (int k = 0; k < 2; k++) {
            s.due("keep(" + k + ")", d.keep(k), false);
            s.due("again(" + k + ")", d.again(k), false);
            s.due("alike(" + k + ", 0)", d.alike(k, 0), -1);
        }
        s.due("end(0)", d.end(0), true);
        s.due("end(1)", d.end(1), false);
        s.due("round()", d.round(), -1000);
        s.due("still no ROUND", d.count(0), 0);
    }

    private static void sign(Sentences s) {
        s.of("Promise 2: sign", "Four signs come behind THE TEXT, of v the highest byte first: how many it has.");
        DuelRound d = new DuelRound();
        s.due("the first four", d.sign(0x613e623b), 4);
        s.due("the next four", d.sign(0x623e633b), 8);
        s.due("the next four", d.sign(0x633e6120), 12);
        s.due("in that order", d.round(), 3);
        s.due("c beats a", d.duel(2, 0, 0), 1);
        // Bytes 0 and 255, in each place; none of them is a part of a text.
        int[][] bytes = {{0, -1000}, {-1, -1000}, {MIN, -1000}, {MAX, -1000}, {0x61000000, -1001}, {0x613e0000, -1002},
            {0x613e6200, -1003}, {0x61ffffff, -1001}, {0x613effff, -1002}, {0x613e62ff, -1003}, {0x00003e61, -1000},
            {0xe13e6220, -1000}, {0x61be6220, -1001}, {0x613ee220, -1002}, {0x613e62a0, -1003}, {0x613e6220, 2}};
        for (int[] one : bytes) {
            s.due("sign(" + one[0] + ")", d.sign(one[0]), 4);
            s.due("round() of " + Integer.toHexString(one[0]), d.round(), one[1]);
        }
        d.sign(0x613e6220);
        d.end(3);
        s.due("behind three", d.sign(0x3b613e63), 7);
        s.due("behind seven", d.sign(0x3b623e63), 11);
        s.due("as one text", d.round(), 3);
    }

    private static void signFull(Sentences s) {
        s.of("Promise 2: sign", "NONE, and none comes: there would be more than 300.");
        for (int length = 292; length <= 300; length++) {
            DuelRound d = new DuelRound();
            Check.say(d, " ".repeat(length - 3) + "b>a");
            boolean fits = length <= 296;
            s.due("sign() with " + length, d.sign(0x3f3f3f3f), fits ? length + 4 : -1);
            s.due("count(3) with " + length, d.count(3), fits ? length + 4 : length);
            s.due("round() with " + length, d.round(), fits ? -1000 - length : 2);
        }
        DuelRound d = new DuelRound();
        Check.say(d, " ".repeat(300));
        s.due("once", d.sign(0), -1);
        s.due("twice", d.sign(0), -1);
        d.end(296);
        s.due("room again", d.sign(0x613e6220), 300);
        s.due("a ROUND at the end", d.round(), 2);
    }

    private static void end(Sentences s) {
        s.of("Promise 3: end", "THE TEXT has its first n signs alone: true;");
        DuelRound d = new DuelRound();
        s.due("end(0) of none", d.end(0), true);
        Check.say(d, "a>b;a>c;b>c?");
        s.due("end(12) of 12", d.end(12), true);
        s.due("all 12 stay", d.count(3), 12);
        s.due("end(11)", d.end(11), true);
        s.due("11 are left", d.count(3), 11);
        s.due("the first ones", d.round(), 3);
        Check.say(d, "a>b;");
        s.due("end(0)", d.end(0), true);
        s.due("none is left", d.count(3), 0);
        s.due("no text", d.round(), -1000);
        Check.say(d, " ".repeat(300));
        s.due("end(300) of 300", d.end(300), true);
        s.due("all 300 stay", d.count(3), 300);
    }

    private static void endRefused(Sentences s) {
        s.of("Promise 3: end", "false: it has not so many, n below 0.");
        DuelRound d = new DuelRound();
        s.due("end(1) of none", d.end(1), false);
        s.due("end(-1) of none", d.end(-1), false);
        Check.say(d, "a>b");
        for (int n : new int[] {4, 5, 300, 301, MAX, -1, -3, MIN}) {
            s.due("end(" + n + ") of 3", d.end(n), false);
            s.due("3 stay", d.count(3), 3);
        }
        // Signs that have gone don't come back.
        d.end(2);
        s.due("end(3) of 2", d.end(3), false);
        s.due("all are as they were", d.round(), -1002);
    }

    private static void round(Sentences s) {
        s.of("Promise 4: round", "THE TEXT becomes the ROUND: how many PLAYERS.");
        DuelRound d = new DuelRound();
        for (int n = 2; n <= 8; n++) {
            s.due("round() of " + n, Check.round(d, Rounds.lineText(n)), n);
            s.due("count(0)", d.count(0), n);
            s.due("the first beats all", d.count(5), 1);
        }
        for (int n = 7; n >= 2; n--) {
            s.due("round() of fewer, " + n, Check.round(d, Rounds.lineText(n)), n);
            s.due("count(1)", d.count(1), n * (n - 1) / 2);
            s.due("no one of more", d.beaten(0, (1 << n) - 1), (1 << n) - 2);
            s.due("others", d.beaten(0, 1 << n), -1);
        }
    }

    private static void roundFault(Sentences s) {
        s.of("Promise 4: round", "-1000 and less by p: a FAULT at p.");
        DuelRound d = Rounds.line(3);
        s.dueRounds(d, "", -1000, "?", -1000, " ?", -1001, "a", -1001, "a>", -1002, " ".repeat(299) + "?", -1299,
                " ".repeat(299) + "a", -1300, " ".repeat(300), -1300, "a>b" + " ".repeat(296) + "?", -1299);
        s.due("the ROUND stays", d.count(0), 3);
    }

    private static void drawn(Sentences s) {
        s.of("Promise 5: drawn", "A ROUND of n PLAYERS (1 .. 8) is drawn: for x from 0 on, for y from x and 1 on: "
                + "s (at first the seed, 0 .. 999,999) becomes (1,103 s and 12,345) modulo 1,000,003; "
                + "if it is even x beats y: n.");
        DuelRound d = new DuelRound();
        s.due("drawn(1, 0)", d.drawn(1, 0), 1);
        s.due("ARROWS of one", d.count(1), 0);
        s.due("drawn(1, 999999)", d.drawn(1, 999999), 1);
        dueDrawn(s, 3, 0, 0, 1, 3);
        dueDrawn(s, 8, 0, 96, 217, 203, 1, 13, 158, 56, 89);
        dueDrawn(s, 8, 999999, 100, 213, 192, 7, 109, 142, 168, 25);
        // s becomes 0, 1, and the four greatest numbers below 1,000,003.
        dueDrawn(s, 2, 870345, 2, 0);
        dueDrawn(s, 2, 413408, 0, 1);
        dueDrawn(s, 2, 241150, 2, 0);
        dueDrawn(s, 2, 784216, 0, 1);
        dueDrawn(s, 2, 327279, 2, 0);
        // For each seed as it is told, of all numbers of PLAYERS.
        for (int seed = 0; seed <= 999999; seed += 33333) {
            for (int n = 1; n <= 8; n++) {
                dueDrawn(s, n, seed, told(n, seed));
            }
        }
    }

    private static int[] told(int n, long seed) {
        int[] beats = new int[n];
        long number = seed;
        for (int x = 0; x < n; x++) {
            for (int y = x + 1; y < n; y++) {
                number = (1103 * number + 12345) % 1000003;
                beats[number % 2 == 0 ? x : y] |= 1 << (number % 2 == 0 ? y : x);
            }
        }
        return beats;
    }

    private static void dueDrawn(Sentences s, int n, int seed, int... beats) {
        DuelRound d = Rounds.line(5);
        s.due("drawn(" + n + ", " + seed + ")", d.drawn(n, seed), n);
        s.due("count(0)", d.count(0), n);
        for (int x = 0; x < n; x++) {
            s.due("drawn(" + n + ", " + seed + "): beaten(" + x + ", all)", d.beaten(x, (1 << n) - 1), beats[x]);
        }
    }

    private static void drawnRefused(Sentences s) {
        s.of("Promise 5: drawn", "-1.");
        DuelRound d = Rounds.line(3);
        int[][] wrong = {{0, 0}, {-1, 0}, {9, 0}, {MIN, 0}, {MAX, 0}, {1, -1}, {8, -1}, {1, 1000000}, {8, 1000000},
            {8, 1000003}, {3, MIN}, {3, MAX}, {0, -1}, {9, 1000000}};
        for (int[] one : wrong) {
            s.due("drawn(" + one[0] + ", " + one[1] + ")", d.drawn(one[0], one[1]), -1);
            s.due("three stay", d.count(0), 3);
        }
        s.due("no ROUND by it", new DuelRound().drawn(0, 0), -1);
    }

    private static void duel(Sentences s) {
        s.of("Promise 6: duel", "Whether x beats y (what 0: 1, 0),");
        DuelRound d = Rounds.line(8);
        for (int x = 0; x < 8; x++) {
            for (int y = 0; y < 8; y++) {
                if (x != y) {
                    s.due("duel(" + x + ", " + y + ", 0)", d.duel(x, y, 0), x < y ? 1 : 0);
                }
            }
        }
    }

    private static void duelCovers(Sentences s) {
        s.of("Promise 6: duel", "x COVERS y of all (1),");
        s.due("one who beats nobody", Check.of("a>b").duel(0, 1, 1), 1);
        s.due("the other way round", Check.of("a>b").duel(1, 0, 1), 0);
        s.due("in a cycle", Check.of(Rounds.CYCLE).duel(0, 1, 1), 0);
        DuelRound d = Check.of(Rounds.BENT);
        s.due("d beats a, who beats b", d.duel(3, 0, 1), 0);
        s.due("b beats c and d", d.duel(1, 2, 1), 1);
        s.due("a beats c, but not d", d.duel(0, 2, 1), 0);
        DuelRound line = Rounds.line(8);
        s.due("the first and the last", line.duel(0, 7, 1), 1);
        s.due("the last but one and the last", line.duel(6, 7, 1), 1);
        s.due("the last and the first", line.duel(7, 0, 1), 0);
    }

    private static void duelBetween(Sentences s) {
        s.of("Promise 6: duel", "the least z that x beats and that beats y (2; NONE).");
        s.due("of two", Check.of("a>b").duel(0, 1, 2), -1);
        DuelRound cycle = Check.of(Rounds.CYCLE);
        s.due("b, a by c", cycle.duel(1, 0, 2), 2);
        s.due("c, b by a", cycle.duel(2, 1, 2), 0);
        s.due("a, b by nobody", cycle.duel(0, 1, 2), -1);
        DuelRound line = Rounds.line(8);
        s.due("the least of six", line.duel(0, 7, 2), 1);
        s.due("one alone", line.duel(5, 7, 2), 6);
        s.due("none", line.duel(6, 7, 2), -1);
        s.due("none backwards", line.duel(7, 0, 2), -1);
        line.turn(0, 7);
        s.due("by h, the last one", line.duel(6, 0, 2), 7);
    }

    private static void duelThrows(Sentences s) {
        s.of("Promise 6: duel", "NoSuchElementException: no such PLAYERS, one twice;");
        int[][] wrong = {{0, 4}, {4, 0}, {4, 5}, {-1, 0}, {0, -1}, {MIN, 0}, {0, MAX}, {8, 9}, {32, 1}, {0, 0}, {3, 3},
            {4, 4}, {-1, -1}};
        DuelRound d = Check.of(Rounds.BENT);
        for (int[] one : wrong) {
            for (int what = 0; what <= 2; what++) {
                s.dueThrow(d, one[0], one[1], what);
            }
        }
        for (int what = 0; what <= 2; what++) {
            s.dueThrow(Rounds.alone(), 0, 0, what);
            s.dueThrow(Rounds.alone(), 0, 1, what);
            s.dueThrow(new DuelRound(), 0, 1, what);
            s.dueThrow(Rounds.line(8), 7, 8, what);
        }
        s.due("all stays", d.duel(3, 0, 0), 1);
    }

    private static void duelOthers(Sentences s) {
        s.of("Promise 6: duel", "NONE: others.");
        DuelRound d = Check.of(Rounds.BENT);
        for (int what : new int[] {3, 4, -1, -2, MIN, MAX}) {
            s.due("duel(0, 1, " + what + ")", d.duel(0, 1, what), -1);
        }
    }

    private static void beaten(Sentences s) {
        s.of("Promise 7: beaten", "Whom x beats of SOME, as bits (x itself need not be of SOME).");
        DuelRound d = Check.of(Rounds.BENT);
        s.due("of all", d.beaten(0, 15), 6);
        s.due("of all but x", d.beaten(0, 14), 6);
        s.due("of x alone", d.beaten(0, 1), 0);
        s.due("of nobody", d.beaten(0, 0), 0);
        s.due("of one", d.beaten(0, 4), 4);
        s.due("of those who beat x", d.beaten(0, 8), 0);
        s.due("the first of eight", Rounds.line(8).beaten(0, 255), 254);
        s.due("the last of eight", Rounds.line(8).beaten(7, 255), 0);
        s.due("one alone", Rounds.alone().beaten(0, 1), 0);
    }

    private static void beatenOthers(Sentences s) {
        s.of("Promise 7: beaten", "NONE: others.");
        DuelRound d = Check.of(Rounds.BENT);
        for (int x : new int[] {4, 5, 8, 31, 32, -1, MIN, MAX}) {
            s.due("beaten(" + x + ", 15)", d.beaten(x, 15), -1);
        }
        for (int some : new int[] {16, 31, -1, MIN, MAX}) {
            s.due("beaten(3, " + some + ")", d.beaten(3, some), -1);
        }
        s.due("a ninth of eight", Rounds.line(8).beaten(8, 255), -1);
        s.due("of nobody without a ROUND", new DuelRound().beaten(0, 0), -1);
    }

    private static void turn(Sentences s) {
        s.of("Promise 8: turn", "The ARROW of two is turned: who beats the other one then.");
        DuelRound d = Rounds.line(8);
        s.due("turn(0, 7)", d.turn(0, 7), 7);
        s.due("h beats a", d.beaten(7, 255), 1);
        s.due("all others are as they were", d.beaten(0, 255), 126);
        s.due("turn(7, 0)", d.turn(7, 0), 0);
        s.due("as it was", d.beaten(0, 255), 254);
        s.due("turn(1, 0)", d.turn(1, 0), 1);
        s.due("turn(1, 0) again", d.turn(1, 0), 0);
    }

    private static void turnRefused(Sentences s) {
        s.of("Promise 8: turn", "-1 one twice; -2.");
        DuelRound d = Check.of(Rounds.BENT);
        for (int x : new int[] {0, 3, 4, -1, 8, MIN, MAX}) {
            s.due("turn(" + x + ", " + x + ")", d.turn(x, x), -1);
        }
        int[][] wrong = {{0, 4}, {4, 0}, {3, 4}, {-1, 0}, {0, -1}, {MIN, MAX}, {4, 5}, {0, 32}};
        for (int[] one : wrong) {
            s.due("turn(" + one[0] + ", " + one[1] + ")", d.turn(one[0], one[1]), -2);
        }
        s.due("no act", d.count(4), 0);
        s.due("of one", Rounds.alone().turn(0, 1), -2);
        s.due("no ROUND", new DuelRound().turn(1, 0), -2);
        s.due("no ROUND, one twice", new DuelRound().turn(0, 0), -1);
    }

    private static void join(Sentences s) {
        s.of("Promise 9: join", "One more PLAYER comes, the last, who beats these (bits), all others beat that one: "
                + "how many there are.");
        DuelRound d = Rounds.alone();
        s.due("who beats nobody", d.join(0), 2);
        s.due("a beats b", d.duel(0, 1, 0), 1);
        s.due("who beats all", d.join(3), 3);
        s.due("c beats both", d.beaten(2, 7), 3);
        s.due("who beats c", d.join(4), 4);
        s.due("d beats c alone", d.beaten(3, 15), 4);
        s.due("a beats b and d", d.beaten(0, 15), 10);
        s.due("b beats d", d.beaten(1, 15), 8);
        s.due("c beats a and b yet", d.beaten(2, 15), 3);
        for (int n = 5; n <= 8; n++) {
            s.due("up to " + n, d.join(0), n);
        }
        s.due("the eighth beats nobody", d.beaten(7, 255), 0);
        d.drop(7);
        s.due("the eighth anew", d.join(127), 8);
        s.due("the eighth beats all", d.count(5), 128);
    }

    private static void joinRefused(Sentences s) {
        s.of("Promise 9: join", "-1 others than PLAYERS; -2; -3 there are 8.");
        DuelRound d = Check.of(Rounds.CYCLE);
        for (int beats : new int[] {8, 9, 15, 16, 128, 256, -1, -8, MIN, MAX}) {
            s.due("join(" + beats + ") of three", d.join(beats), -1);
        }
        s.due("three stay", d.count(0), 3);
        s.due("no act", d.count(4), 0);
        s.due("no ROUND", new DuelRound().join(0), -2);
        s.due("no ROUND, others", new DuelRound().join(1), -1);
        DuelRound eight = Rounds.line(8);
        s.due("a ninth", eight.join(0), -3);
        s.due("a ninth who beats all", eight.join(255), -3);
        s.due("a ninth who beats others", eight.join(256), -1);
        eight.drop(0);
        s.due("an eighth who beats itself", eight.join(128), -1);
        s.due("an eighth", eight.join(127), 8);
    }

    private static void drop(Sentences s) {
        s.of("Promise 10: drop", "A PLAYER goes; those behind have numbers less by 1: how many are left.");
        DuelRound first = Check.of(Rounds.BENT);
        s.due("the first", first.drop(0), 3);
        s.due("b is a now", first.beaten(0, 7), 6);
        s.due("c is b now", first.beaten(1, 7), 4);
        s.due("d is c now", first.beaten(2, 7), 0);
        DuelRound last = Check.of(Rounds.BENT);
        s.due("the last", last.drop(3), 3);
        s.due("a stays a", last.beaten(0, 7), 6);
        s.due("c stays c", last.beaten(2, 7), 0);
        DuelRound midst = Check.of(Rounds.BENT);
        s.due("one in the midst", midst.drop(2), 3);
        s.due("a beats b", midst.beaten(0, 7), 2);
        s.due("b beats the former d", midst.beaten(1, 7), 4);
        s.due("the former d beats a", midst.beaten(2, 7), 1);
        s.due("down to two", midst.drop(0), 2);
        s.due("down to one", midst.drop(1), 1);
        s.due("that one beats all others", midst.count(5), 1);
        DuelRound eight = Rounds.line(8);
        for (int n = 7; n >= 1; n--) {
            s.due("of " + (n + 1), eight.drop(n), n);
        }
    }

    private static void dropRefused(Sentences s) {
        s.of("Promise 10: drop", "-2; -3 there is one alone.");
        DuelRound d = Check.of(Rounds.BENT);
        for (int x : new int[] {4, 5, 8, 32, -1, MIN, MAX}) {
            s.due("drop(" + x + ") of four", d.drop(x), -2);
        }
        s.due("four stay", d.count(0), 4);
        s.due("no act", d.count(4), 0);
        s.due("no ROUND", new DuelRound().drop(0), -2);
        s.due("one alone", Rounds.alone().drop(0), -3);
        s.due("no PLAYER of one", Rounds.alone().drop(1), -2);
        s.due("below, of one", Rounds.alone().drop(-1), -2);
        s.due("two", Rounds.line(2).drop(1), 1);
    }
}
