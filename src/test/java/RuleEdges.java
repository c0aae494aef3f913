import java.util.function.ToIntFunction;

/** The words IN FULL, the REFUSED calls, and the constants. */
final class RuleEdges {
    private static final String TERMS = "Terms";
    private static final int MIN = Integer.MIN_VALUE;
    private static final int MAX = Integer.MAX_VALUE;

    private RuleEdges() {
    }

    static void ask(Sentences s) {
        textIsEmptied(s);
        faultLeavesAll(s);
        acts(s);
        newRound(s);
        judgedStays(s);
        refused(s);
        refusedNumbers(s);
        refusedInOrder(s);
        someWithOthers(s);
        constants(s);
        String[] heads = {"`duel`, `beaten`, `turn`, `join`, `drop` the interface says: ---- the round.",
            "`set`, `praised`, `within`, `chain`, `best`, `byWins`, `weight`, `keeps`, `is` the interface says: ---- sets.",
            "`cup`, `winner` the interface says: ---- cups.",
            "`judge`, `judged` the interface says: ---- proofs.",
            "`fewest`, `selves` the interface says: ---- what if.",
            "`undo`, `keep`, `again`, `alike`, `count` the interface says: ---- back."};
        for (String head : heads) {
            s.noCase(TERMS, "Ahead of the calls " + head);
        }
        s.noCase(TERMS, "The constants:");
    }

    /** Four PLAYERS, three acts, two ROUNDS kept, PROOFS judged, and 8 signs of a right text. */
    private static DuelRound rich() {
        DuelRound d = Check.of(Rounds.BENT);
        d.keep(1);
        d.turn(0, 1);
        d.join(3);
        d.keep(0);
        d.drop(0);
        Check.judge(d, "u a b;k d");
        d.sign(0x613e6220);
        d.sign(0x20202020);
        return d;
    }

    private static void textIsEmptied(Sentences s) {
        s.of(TERMS, "IN FULL: round() and judge() empty THE TEXT whatever they answer;");
        String[] texts = {"a>b", "a>b;", "?", " ".repeat(300), "", "k a b", "k c", "k", "u a b;?"};
        for (String text : texts) {
            DuelRound[] all = {new DuelRound(), Check.of(Rounds.BENT)};
            for (DuelRound d : all) {
                Check.round(d, text);
                s.due("signs behind round() of '" + text + "'", d.count(3), 0);
                s.due("end(1)", d.end(1), false);
            }
            all = new DuelRound[] {new DuelRound(), Check.of(Rounds.BENT)};
            for (DuelRound d : all) {
                Check.judge(d, text);
                s.due("signs behind judge() of '" + text + "'", d.count(3), 0);
                s.due("sign()", d.sign(0x613e6220), 4);
                s.due("the new signs alone", d.round(), 2);
            }
        }
    }

    private static void faultLeavesAll(Sentences s) {
        s.of(TERMS, "with a FAULT all else stays.");
        String[] texts = {"", "?", "a>b;", "a>b;a>a", "a>b;b>a", "b>c", "k a;"};
        for (String text : texts) {
            DuelRound twin = rich();
            twin.end(0);
            DuelRound one = rich();
            s.due("round() of '" + text + "' is a FAULT", Check.round(one, text) <= -1000, true);
            s.dueTwins("round() of '" + text + "'", one, twin);
            twin = rich();
            twin.end(0);
            one = rich();
            s.due("judge() of '" + text + "' is a FAULT", Check.judge(one, text) <= -1000, true);
            s.dueTwins("judge() of '" + text + "'", one, twin);
        }
    }

    private static void acts(Sentences s) {
        s.of(TERMS, "Acts: turn(), join(), drop(), again() that were done: the latest 10 can be undone.");
        DuelRound d = Check.of(Rounds.BENT);
        s.due("none yet", d.count(4), 0);
        d.keep(0);
        s.due("keep() is none", d.count(4), 0);
        d.turn(0, 0);
        d.turn(0, 4);
        d.join(16);
        d.drop(4);
        d.again(1);
        s.due("those not done are none", d.count(4), 0);
        d.turn(0, 1);
        s.due("turn()", d.count(4), 1);
        d.join(0);
        s.due("join()", d.count(4), 2);
        d.drop(0);
        s.due("drop()", d.count(4), 3);
        d.again(0);
        s.due("again()", d.count(4), 4);
        d.undo();
        s.due("undo() is none", d.count(4), 3);
        for (int i = 4; i <= 10; i++) {
            d.turn(0, 1);
            s.due("acts", d.count(4), i);
        }
        s.due("undo() of 10", d.undo(), 9);
        d.turn(0, 1);
        d.turn(0, 2);
        s.due("the eleventh", d.count(4), 10);
        // The first one, turn(0, 1) of the four, can't be undone any more.
        for (int left = 9; left >= 0; left--) {
            s.due("undo()", d.undo(), left);
        }
        s.due("no more", d.undo(), -3);
        s.due("the first act stands", d.alike(0, 1), 1);
        s.due("b beats a by it", d.duel(1, 0, 0), 1);
        actsInOrder(s);
    }

    /** Thirteen acts, no two of which leave the same ROUND; the latest ten are undone one by one. */
    private static void actsInOrder(Sentences s) {
        DuelRound d = Rounds.line(5);
        String[] ahead = new String[13];
        for (int act = 0; act < 13; act++) {
            ahead[act] = arrows(d);
            if (act == 4) {
                d.join(6);
            } else if (act == 9) {
                d.drop(2);
            } else {
                d.turn(act % 4, act % 4 + 1);
            }
        }
        for (int act = 12; act >= 3; act--) {
            s.due("undo() of act " + act, d.undo(), act - 3);
            s.due("as ahead of act " + act + ": " + arrows(d) + ", " + ahead[act], arrows(d).equals(ahead[act]), true);
        }
        s.due("undo() of act 2", d.undo(), -3);
    }

    private static String arrows(DuelRound d) {
        StringBuilder b = new StringBuilder();
        for (int x = 0; x < d.count(0); x++) {
            b.append(d.beaten(x, (1 << d.count(0)) - 1)).append(' ');
        }
        return b.toString();
    }

    private static void newRound(Sentences s) {
        s.of(TERMS, "With a ROUND by a text, or drawn, nothing can be undone, nothing is kept.");
        for (int way = 0; way < 2; way++) {
            DuelRound d = rich();
            d.end(0);
            if (way == 0) {
                Check.round(d, Rounds.CYCLE);
            } else {
                d.drawn(3, 1);
            }
            s.due("count(4)", d.count(4), 0);
            s.due("undo()", d.undo(), -3);
            for (int k = 0; k < 2; k++) {
                s.due("again(" + k + ")", d.again(k), false);
                s.due("alike(" + k + ", 0)", d.alike(k, 0), -1);
                s.due("alike(" + k + ", 1)", d.alike(k, 1), -1);
            }
            s.due("it can be kept", d.keep(0), true);
            s.due("and acts can be undone", d.turn(0, 1), 1);
            s.due("one act", d.undo(), 0);
        }
        // The same ROUND once more is a new one, too.
        DuelRound same = Rounds.alone();
        same.keep(0);
        same.drawn(1, 0);
        s.due("again(0) of the same", same.again(0), false);
    }

    private static void judgedStays(Sentences s) {
        s.of(TERMS, "What the latest judge() without a FAULT told stays.");
        DuelRound d = Check.of(Rounds.BENT);
        Check.judge(d, "k d a;k c;k b d");
        dueJudged(s, "judge()", d, 1, 4, 3, 8);
        Check.judge(d, "k");
        dueJudged(s, "a FAULT", d, 1, 4, 3, 8);
        d.turn(0, 3);
        d.join(0);
        d.drop(3);
        d.keep(0);
        d.again(0);
        d.undo();
        dueJudged(s, "acts", d, 1, 4, 3, 8);
        Check.round(d, "a>b;");
        dueJudged(s, "a FAULT of round()", d, 1, 4, 3, 8);
        d.drawn(9, 0);
        dueJudged(s, "a refused call", d, 1, 4, 3, 8);
        Check.round(d, "a>b");
        dueJudged(s, "a ROUND by a text", d, 1, 4, 3, 8);
        d.drawn(1, 0);
        dueJudged(s, "a ROUND drawn", d, 1, 4, 3, 8);
        Check.judge(d, "k a");
        dueJudged(s, "the next judge()", d, -1, 0, 1, 1);
    }

    private static void dueJudged(Sentences s, String call, DuelRound d, int... due) {
        for (int what = 0; what < 4; what++) {
            s.due(call + ": judged(" + what + ")", d.judged(what), due[what]);
        }
    }

    private static void refused(Sentences s) {
        s.of(TERMS, "REFUSED calls answer as told, and change nothing but THE TEXT:");
        dueRefused(s, "end(-1)", d -> d.end(-1) ? 1 : 0, 0);
        dueRefused(s, "end(9)", d -> d.end(9) ? 1 : 0, 0);
        dueRefused(s, "drawn(0, 0)", d -> d.drawn(0, 0), -1);
        dueRefused(s, "drawn(9, 0)", d -> d.drawn(9, 0), -1);
        dueRefused(s, "drawn(3, -1)", d -> d.drawn(3, -1), -1);
        dueRefused(s, "drawn(3, 1000000)", d -> d.drawn(3, 1000000), -1);
        dueRefused(s, "duel(0, 1, 3)", d -> d.duel(0, 1, 3), -1);
        dueRefused(s, "duel(0, 0, 0)", RuleEdges::throwingDuel, 77);
        dueRefused(s, "beaten(4, 0)", d -> d.beaten(4, 0), -1);
        dueRefused(s, "turn(1, 1)", d -> d.turn(1, 1), -1);
        dueRefused(s, "turn(0, 4)", d -> d.turn(0, 4), -2);
        dueRefused(s, "join(16)", d -> d.join(16), -1);
        dueRefused(s, "drop(4)", d -> d.drop(4), -2);
        dueRefused(s, "set(10, 15)", d -> d.set(10, 15), -1);
        dueRefused(s, "praised(0, 9)", d -> d.praised(0, 9), -1);
        dueRefused(s, "within(2)", d -> d.within(2), -1);
        dueRefused(s, "chain(0, 14, -1)", d -> d.chain(0, 14, -1), -1);
        dueRefused(s, "best(14)", d -> d.best(14), -1);
        dueRefused(s, "byWins(2)", d -> d.byWins(2), -1);
        dueRefused(s, "weight(4, 0)", d -> d.weight(4, 0), MIN);
        dueRefused(s, "keeps(4, 0)", d -> d.keeps(4, 0), -1);
        dueRefused(s, "is(15, 2)", d -> d.is(15, 2), -1);
        dueRefused(s, "cup(4, -1)", d -> d.cup(4, -1), -1);
        dueRefused(s, "winner(16)", d -> d.winner(16), -1);
        dueRefused(s, "judged(4)", d -> d.judged(4), -1);
        dueRefused(s, "fewest(0, 10)", d -> d.fewest(0, 10), -1);
        dueRefused(s, "keep(2)", d -> d.keep(2) ? 1 : 0, 0);
        dueRefused(s, "again(2)", d -> d.again(2) ? 1 : 0, 0);
        dueRefused(s, "alike(2, 0)", d -> d.alike(2, 0), -1);
        dueRefused(s, "count(6)", d -> d.count(6), -1);
        refusedFull(s);
        askingLeavesAll(s);
    }

    /** Those that are refused by what stands: eight, one alone, nothing to undo, 300 signs. */
    private static void refusedFull(Sentences s) {
        dueSame(s, "join(0) of eight", Rounds.line(8), Rounds.line(8), d -> d.join(0), -3);
        dueSame(s, "drop(0) of one", Rounds.alone(), Rounds.alone(), d -> d.drop(0), -3);
        dueSame(s, "undo()", Rounds.line(3), Rounds.line(3), d -> d.undo(), -3);
        dueSame(s, "undo() without a ROUND", new DuelRound(), new DuelRound(), d -> d.undo(), -2);
        dueSame(s, "cup(0, -1) of three", Rounds.line(3), Rounds.line(3), d -> d.cup(0, -1), -3);
        dueSame(s, "winner(0) of three", Rounds.line(3), Rounds.line(3), d -> d.winner(0), -3);
        dueSame(s, "again(0)", Rounds.line(3), Rounds.line(3), d -> d.again(0) ? 1 : 0, 0);
        DuelRound one = Rounds.line(3);
        DuelRound twin = Rounds.line(3);
        Check.say(one, " ".repeat(297) + "a>b");
        Check.say(twin, " ".repeat(297) + "a>b");
        dueSame(s, "sign() with 300", one, twin, d -> d.sign(0x3f3f3f3f), -1);
    }

    private static int throwingDuel(DuelRound d) {
        try {
            return d.duel(0, 0, 0);
        } catch (java.util.NoSuchElementException e) {
            return 77;
        }
    }

    private static void dueRefused(Sentences s, String call, ToIntFunction<DuelRound> act, int answer) {
        dueSame(s, call, rich(), rich(), act, answer);
    }

    private static void dueSame(Sentences s, String call, DuelRound one, DuelRound twin, ToIntFunction<DuelRound> act,
            int answer) {
        s.due(call, act.applyAsInt(one), answer);
        s.dueTwins(call, one, twin);
    }

    /** Calls that ask only change nothing, either. */
    private static void askingLeavesAll(Sentences s) {
        DuelRound one = rich();
        int n = one.count(0);
        for (int kind = 0; kind < 10; kind++) {
            one.set(kind, 15);
            one.fewest(n - 1, kind);
        }
        one.within(0);
        one.chain(0, 15, -1);
        one.best(10);
        one.byWins(1);
        one.cup(0, 0);
        one.winner(5);
        one.selves();
        one.alike(0, 0);
        one.alike(1, 1);
        s.dueTwins("calls that ask", one, rich());
    }

    private static void refusedNumbers(Sentences s) {
        s.of(TERMS, "-1 a number that can't be; -2 no ROUND, no such PLAYER; -3 it can't be by what stands.");
        DuelRound d = Check.of(Rounds.BENT);
        s.due("turn(2, 2)", d.turn(2, 2), -1);
        s.due("join(16)", d.join(16), -1);
        s.due("drawn(0, 0)", d.drawn(0, 0), -1);
        s.due("turn(3, 4)", d.turn(3, 4), -2);
        s.due("turn(-1, 0)", d.turn(-1, 0), -2);
        s.due("drop(4)", d.drop(4), -2);
        s.due("drop(-1)", d.drop(-1), -2);
        s.due("undo()", d.undo(), -3);
        s.due("drop(0) of one", Rounds.alone().drop(0), -3);
        s.due("join(0) of eight", Rounds.line(8).join(0), -3);
        DuelRound none = new DuelRound();
        s.due("turn(0, 1) without a ROUND", none.turn(0, 1), -2);
        s.due("join(0) without a ROUND", none.join(0), -2);
        s.due("drop(0) without a ROUND", none.drop(0), -2);
        s.due("undo() without a ROUND", none.undo(), -2);
        s.due("judge() without a ROUND", none.judge(), -2);
    }

    private static void refusedInOrder(Sentences s) {
        s.of(TERMS, "The first of these in that order.");
        DuelRound none = new DuelRound();
        s.due("-1 ahead of -2: turn(0, 0) without a ROUND", none.turn(0, 0), -1);
        s.due("-1 ahead of -2: turn(9, 9) without a ROUND", none.turn(9, 9), -1);
        s.due("-1 ahead of -2: join(1) without a ROUND", none.join(1), -1);
        s.due("-1 ahead of -2: turn(4, 4) of four", Check.of(Rounds.BENT).turn(4, 4), -1);
        s.due("-1 ahead of -2: turn(MIN, MIN)", Check.of(Rounds.BENT).turn(MIN, MIN), -1);
        s.due("-1 ahead of -3: join(256) of eight", Rounds.line(8).join(256), -1);
        s.due("-1 ahead of -3: join(-1) of eight", Rounds.line(8).join(-1), -1);
        s.due("-2 ahead of -3: undo() without a ROUND", none.undo(), -2);
        s.due("-2 ahead of -3: drop(1) of one", Rounds.alone().drop(1), -2);
        s.due("-1 ahead of -3: winner(8) of three", Rounds.line(3).winner(8), -1);
        s.due("-1 ahead of -3: cup(3, -1) of three", Rounds.line(3).cup(3, -1), -1);
        s.due("-1 ahead of -3: cup(0, -2) of three", Rounds.line(3).cup(0, -2), -1);
        s.due("-1 ahead of -3: chain() with -2", Rounds.line(3).chain(2, 7, -2), -1);
    }

    private static void someWithOthers(Sentences s) {
        s.of(TERMS, "SOME with others than PLAYERS: others.");
        DuelRound d = Check.of(Rounds.BENT);
        int[] others = {16, 17, 31, 32, 128, 256, 1 << 30, -1, -16, MIN, MAX};
        for (int some : others) {
            s.due("beaten(0, " + some + ")", d.beaten(0, some), -1);
            s.due("keeps(0, " + some + ")", d.keeps(0, some), -1);
            s.due("chain(0, " + some + ", -1)", d.chain(0, some, -1), -1);
            s.due("is(" + some + ", 0)", d.is(some, 0), -1);
            s.due("winner(" + some + ")", d.winner(some), -1);
            s.due("set(0, " + some + ")", d.set(0, some), -1);
            s.due("set(9, " + some + ")", d.set(9, some), -1);
        }
        s.due("all are no others", d.set(0, 15), 15);
        s.due("all eight are no others", Rounds.line(8).set(0, 255), 1);
        s.due("a ninth is another", Rounds.line(8).set(0, 511), -1);
        s.due("a second of one is another", Rounds.alone().set(0, 2), -1);
    }

    private static void constants(Sentences s) {
        s.of(TERMS, "`NOTHING = Integer.MIN_VALUE`: What a call answers, where there is none, and a number below 0 might be.");
        s.due("NOTHING", DuelRound.NOTHING, MIN);
        s.due("NONE", DuelRound.NONE, -1);
        DuelRound d = Check.of(Rounds.LINE);
        s.due("a number below 0", d.weight(1, 1), -1);
        s.due("there is none", d.weight(4, 1), DuelRound.NOTHING);
        s.due("there is none of what 2", d.weight(1, 2), DuelRound.NOTHING);
    }
}
