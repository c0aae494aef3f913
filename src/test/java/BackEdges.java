/** Promises 20, 21 and 24 to 30: cups, what if, back, at the boundaries that they name. */
final class BackEdges {
    private static final int MIN = Integer.MIN_VALUE;
    private static final int MAX = Integer.MAX_VALUE;

    private BackEdges() {
    }

    static void ask(Sentences s) {
        cup(s);
        cupRefused(s);
        cupOthers(s);
        winner(s);
        winnerRefused(s);
        fewest(s);
        fewestMore(s);
        fewestOthers(s);
        selves(s);
        selvesNone(s);
        undo(s);
        undoRefused(s);
        keep(s);
        keepRefused(s);
        again(s);
        againRefused(s);
        alike(s);
        alikeOthers(s);
        count(s);
        countOthers(s);
    }

    private static DuelRound bent() {
        return Check.of(Rounds.BENT);
    }

    private static void cup(Sentences s) {
        s.of("Promise 20: cup", "By how many ROWS of all x wins (i NONE), the i-th PLAYER of the least of these.");
        s.due("one alone", Rounds.alone().cup(0, -1), 1);
        s.due("one alone, the first", Rounds.alone().cup(0, 0), 0);
        DuelRound two = Check.of("b>a");
        s.due("of two", two.cup(1, -1), 2);
        s.due("of two, the one who is beaten", two.cup(0, -1), 0);
        dueRow(s, two, 1, 0, 1);
        s.due("a of four", bent().cup(0, -1), 16);
        s.due("b of four", bent().cup(1, -1), 8);
        dueRow(s, bent(), 0, 0, 1, 2, 3);
        dueRow(s, bent(), 1, 0, 3, 1, 2);
        s.due("all ROWS of four", Check.of(Rounds.LINE).cup(0, -1), 24);
        s.due("all ROWS of eight", Rounds.line(8).cup(0, -1), 40320);
        dueRow(s, Rounds.line(8), 0, 0, 1, 2, 3, 4, 5, 6, 7);
        DuelRound ring = Check.of(Rounds.RING);
        ring.join(0);
        s.due("each of the ring", ring.cup(6, -1), 5760);
        s.due("none of the eighth", ring.cup(7, -1), 0);
        DuelRound eight = Check.of(Rounds.SMALL_KEEPING);
        int[] rows = {1536, 2304, 15616, 2816, 8704, 1664, 6784, 896};
        for (int x = 0; x < 8; x++) {
            s.due("cup(" + x + ", -1) of eight", eight.cup(x, -1), rows[x]);
        }
        dueRow(s, eight, 0, 0, 1, 2, 3, 4, 5, 6, 7);
        dueRow(s, eight, 1, 0, 2, 3, 4, 1, 6, 5, 7);
        dueRow(s, eight, 2, 0, 1, 2, 5, 3, 4, 6, 7);
        dueRow(s, eight, 3, 0, 2, 3, 5, 1, 4, 6, 7);
        dueRow(s, eight, 5, 0, 3, 1, 5, 2, 6, 4, 7);
        dueRow(s, eight, 7, 0, 1, 4, 6, 2, 3, 5, 7);
    }

    private static void dueRow(Sentences s, DuelRound d, int x, int... row) {
        for (int i = 0; i < row.length; i++) {
            s.due("cup(" + x + ", " + i + ") of " + row.length, d.cup(x, i), row[i]);
        }
    }

    private static void cupRefused(Sentences s) {
        s.of("Promise 20: cup", "-3: there are not 1, 2, 4, 8 PLAYERS, (i from 0 on) there is no such ROW;");
        for (int n = 1; n <= 8; n++) {
            boolean fits = n == 1 || n == 2 || n == 4 || n == 8;
            int rows = n == 1 ? 1 : n == 2 ? 2 : n == 4 ? 24 : 40320;
            s.due("cup(0, -1) of " + n, Rounds.line(n).cup(0, -1), fits ? rows : -3);
            s.due("cup(0, 0) of " + n, Rounds.line(n).cup(0, 0), fits ? 0 : -3);
        }
        s.due("no ROW for d", bent().cup(3, -1), 0);
        for (int i = 0; i < 4; i++) {
            s.due("cup(3, " + i + ")", bent().cup(3, i), -3);
        }
        s.due("no ROW for the last of eight", Rounds.line(8).cup(7, -1), 0);
        s.due("cup(7, 7) of eight", Rounds.line(8).cup(7, 7), -3);
        s.due("no ROW for the last of two", Rounds.line(2).cup(1, 1), -3);
    }

    private static void cupOthers(Sentences s) {
        s.of("Promise 20: cup", "NONE: others.");
        for (int x : new int[] {4, 8, -1, MIN, MAX}) {
            s.due("cup(" + x + ", -1)", bent().cup(x, -1), -1);
            s.due("cup(" + x + ", 0)", bent().cup(x, 0), -1);
        }
        for (int i : new int[] {-2, -3, 4, 5, 8, MIN, MAX}) {
            s.due("cup(0, " + i + ") of four", bent().cup(0, i), -1);
        }
        s.due("cup(0, 8) of eight", Rounds.line(8).cup(0, 8), -1);
        s.due("cup(0, 1) of one", Rounds.alone().cup(0, 1), -1);
        s.due("no ROUND", new DuelRound().cup(0, -1), -1);
    }

    private static void winner(Sentences s) {
        s.of("Promise 21: winner", "Who wins by the ROW with the PLAYERS as they stand, those of a set first.");
        s.due("one alone, nobody first", Rounds.alone().winner(0), 0);
        s.due("one alone, all first", Rounds.alone().winner(1), 0);
        for (int set = 0; set < 4; set++) {
            s.due("b of two by " + set, Check.of("b>a").winner(set), 1);
        }
        // The first two, and the last two: a, b | c, d: a. a, c | b, d: a. a, d | b, c: b.
        int[] due = {0, 0, 0, 0, 0, 0, 1, 0, 1, 1, 0, 0, 0, 0, 1, 0};
        for (int set = 0; set < 16; set++) {
            s.due("winner(" + set + ") of four", bent().winner(set), due[set]);
        }
        DuelRound eight = Rounds.line(8);
        for (int set : new int[] {0, 255, 254, 128, 1, 170}) {
            s.due("winner(" + set + ") of eight", eight.winner(set), 0);
        }
        eight.turn(0, 7);
        // h beats a alone: if these two duel first, b wins.
        s.due("a, h first", eight.winner(129), 1);
        s.due("a, b first", eight.winner(3), 0);
        s.due("as they stand", eight.winner(0), 0);
    }

    private static void winnerRefused(Sentences s) {
        s.of("Promise 21: winner", "-3: there are not 1, 2, 4, 8; NONE: others.");
        for (int n = 1; n <= 8; n++) {
            boolean fits = n == 1 || n == 2 || n == 4 || n == 8;
            s.due("winner(0) of " + n, Rounds.line(n).winner(0), fits ? 0 : -3);
            s.due("winner(all) of " + n, Rounds.line(n).winner((1 << n) - 1), fits ? 0 : -3);
            s.due("winner(others) of " + n, Rounds.line(n).winner(1 << n), -1);
            s.due("winner(-1) of " + n, Rounds.line(n).winner(-1), -1);
        }
        s.due("MIN", bent().winner(MIN), -1);
        s.due("MAX", bent().winner(MAX), -1);
        s.due("no ROUND, a set of others", new DuelRound().winner(1), -1);
    }

    private static void fewest(Sentences s) {
        s.of("Promise 24: fewest", "The fewest ARROWS (0 .. 2) that must be turned, so that x is in SET kind of all.");
        for (int kind = 0; kind <= 9; kind++) {
            s.due("a of a row of four, kind " + kind, Check.of(Rounds.LINE).fewest(0, kind), 0);
            s.due("one alone, kind " + kind, Rounds.alone().fewest(0, kind), 0);
            s.due("the one of two who is beaten, kind " + kind, Check.of("b>a").fewest(0, kind), 1);
        }
        DuelRound line = Check.of(Rounds.LINE);
        // d beats a by one: then all reach all. d wins one duel, all others one at least: a cup needs two.
        s.due("d to TOP", line.fewest(3, 0), 1);
        s.due("d to MOST", line.fewest(3, 1), 2);
        s.due("c to MOST", line.fewest(2, 1), 1);
        s.due("d to UNCOVERED", line.fewest(3, 2), 1);
        s.due("d to the CUP", line.fewest(3, 9), 2);
        s.due("c to the CUP", line.fewest(2, 9), 1);
        s.due("all ARROWS are as they were", line.count(2), 0);
        s.due("it is no act", line.count(4), 0);
        s.due("d of bent to SLATER", bent().fewest(3, 5), 1);
        // c is of TOP, though it is COVERED.
        s.due("c of bent to TOP", bent().fewest(2, 0), 0);
        s.due("c of bent to UNCOVERED", bent().fewest(2, 2), 1);
        // The last of a row of n is n - 1 behind; each turned ARROW takes two off.
        for (int n = 2; n <= 5; n++) {
            s.due("the last of a row of " + n + " to SLATER", Rounds.line(n).fewest(n - 1, 5), n / 2);
        }
        s.due("a, whom all beat, to MOST", Check.of("b>a;c>a;d>a;c>b;b>d;c>d").fewest(0, 1), 2);
        // The ARROW of the last two.
        DuelRound back = Rounds.line(8);
        for (int x = 0; x < 8; x++) {
            for (int y = x + 1; y < 8; y++) {
                back.turn(x, y);
            }
        }
        for (int kind = 0; kind <= 9; kind++) {
            s.due("g of a row backwards, kind " + kind, back.fewest(6, kind), 1);
        }
    }

    private static void fewestMore(Sentences s) {
        s.of("Promise 24: fewest", "-2: more;");
        DuelRound eight = Rounds.line(8);
        s.due("the last of eight to TOP", eight.fewest(7, 0), 1);
        s.due("the last of eight to MOST", eight.fewest(7, 1), -2);
        s.due("the last of eight to SLATER", eight.fewest(7, 5), -2);
        s.due("the last of six to SLATER", Rounds.line(6).fewest(5, 5), -2);
        s.due("the last of eight to the CUP", eight.fewest(7, 9), -2);
        // The sixth beats two, the first seven: two turned make it 4 : 6, or 3 : 6; the third beats five: 6 : 6 by one.
        s.due("the sixth of eight to MOST", eight.fewest(5, 1), -2);
        s.due("the third of eight to MOST", eight.fewest(2, 1), 1);
        // There is no CUP of these, whatever is turned.
        for (int n : new int[] {3, 5, 6, 7}) {
            s.due("the first of " + n + " to the CUP", Rounds.line(n).fewest(0, 9), -2);
        }
        s.due("all ARROWS are as they were", eight.count(2), 0);
    }

    private static void fewestOthers(Sentences s) {
        s.of("Promise 24: fewest", "NONE: others, no such PLAYER.");
        for (int kind : new int[] {-1, -2, 10, 11, MIN, MAX}) {
            s.due("fewest(0, " + kind + ")", bent().fewest(0, kind), -1);
        }
        for (int x : new int[] {4, 8, -1, MIN, MAX}) {
            s.due("fewest(" + x + ", 0)", bent().fewest(x, 0), -1);
            s.due("fewest(" + x + ", 9)", bent().fewest(x, 9), -1);
        }
        s.due("no PLAYER of three to the CUP", Rounds.line(3).fewest(3, 9), -1);
        s.due("no ROUND", new DuelRound().fewest(0, 0), -1);
    }

    private static void selves(Sentences s) {
        s.of("Promise 25: selves", "How many ways there are to give the PLAYERS other names, so that all ARROWS are "
                + "as they were (the names as they are, too).");
        for (int n = 1; n <= 8; n++) {
            s.due("a row of " + n, Rounds.line(n).selves(), 1);
        }
        s.due("a cycle", Check.of(Rounds.CYCLE).selves(), 3);
        s.due("a cycle and one behind", Check.of(Rounds.CYCLE + ";a>d;b>d;c>d").selves(), 3);
        s.due("a cycle and one ahead", Check.of(Rounds.CYCLE + ";d>a;d>b;d>c").selves(), 3);
        s.due("the ring", Check.of(Rounds.RING).selves(), 21);
        s.due("two cycles, one ahead", Check.of(Rounds.CYCLE + ";d>e;e>f;f>d;a>d;a>e;a>f;b>d;b>e;b>f;c>d;c>e;c>f").selves(), 9);
    }

    private static void selvesNone(Sentences s) {
        s.of("Promise 25: selves", "NONE: no ROUND.");
        s.due("selves()", new DuelRound().selves(), -1);
        DuelRound fault = new DuelRound();
        Check.round(fault, "a>b;");
        s.due("selves() behind a FAULT", fault.selves(), -1);
        s.due("one alone", Rounds.alone().selves(), 1);
    }

    private static void undo(Sentences s) {
        s.of("Promise 26: undo", "The latest act is undone: how many can be yet.");
        DuelRound d = bent();
        d.turn(0, 1);
        s.due("the only one", d.undo(), 0);
        s.due("a beats b", d.duel(0, 1, 0), 1);
        d.join(15);
        d.drop(0);
        s.due("drop()", d.undo(), 1);
        s.due("five", d.count(0), 5);
        s.due("join()", d.undo(), 0);
        s.due("four", d.count(0), 4);
        s.due("all are as they were", d.beaten(3, 15), 1);
        d.join(0);
        s.due("what was undone leaves nothing", d.beaten(4, 31), 0);
        d.undo();
        d.join(15);
        s.due("nor the other way round", d.beaten(0, 31), 6);
        d.undo();
        for (int i = 0; i < 11; i++) {
            d.turn(i % 3, 3);
        }
        for (int left = 9; left >= 0; left--) {
            s.due("undo() of eleven", d.undo(), left);
        }
        s.due("the first of eleven stands", d.duel(0, 3, 0), 1);
        DuelRound eight = Rounds.line(7);
        eight.join(127);
        eight.drop(0);
        eight.undo();
        s.due("eight again", eight.count(0), 8);
        s.due("the eighth beats all", eight.count(5), 128);
        DuelRound one = Rounds.line(2);
        one.drop(0);
        one.undo();
        s.due("two again", one.beaten(0, 3), 2);
    }

    private static void undoRefused(Sentences s) {
        s.of("Promise 26: undo", "-2: no ROUND; -3: none.");
        s.due("no ROUND", new DuelRound().undo(), -2);
        DuelRound d = bent();
        s.due("none yet", d.undo(), -3);
        d.turn(0, 1);
        d.undo();
        s.due("none any more", d.undo(), -3);
        s.due("the ROUND stays", d.duel(0, 1, 0), 1);
        d.turn(0, 1);
        d.drawn(2, 0);
        s.due("none of a new ROUND", d.undo(), -3);
    }

    private static void keep(Sentences s) {
        s.of("Promise 27: keep", "The ROUND is kept under k (0, 1): true;");
        DuelRound d = bent();
        s.due("keep(0)", d.keep(0), true);
        d.turn(0, 1);
        s.due("keep(1)", d.keep(1), true);
        s.due("under 0", d.alike(0, 1), 1);
        s.due("under 1", d.alike(1, 1), 0);
        d.turn(0, 2);
        s.due("keep(0) anew", d.keep(0), true);
        s.due("under 0 anew", d.alike(0, 1), 0);
        s.due("under 1 as it was", d.alike(1, 1), 1);
        s.due("no acts", d.count(4), 2);
        DuelRound eight = Rounds.line(8);
        s.due("eight", eight.keep(1), true);
        eight.drop(0);
        eight.again(1);
        s.due("eight again", eight.count(0), 8);
        DuelRound one = Rounds.alone();
        s.due("one alone", one.keep(0), true);
        s.due("one alone again", one.again(0), true);
    }

    private static void keepRefused(Sentences s) {
        s.of("Promise 27: keep", "false: others, no ROUND.");
        DuelRound d = bent();
        for (int k : new int[] {2, 3, -1, -2, MIN, MAX}) {
            s.due("keep(" + k + ")", d.keep(k), false);
        }
        s.due("nothing is kept under 0", d.again(0), false);
        s.due("nothing is kept under 1", d.again(1), false);
        DuelRound none = new DuelRound();
        s.due("no ROUND: keep(0)", none.keep(0), false);
        s.due("no ROUND: keep(1)", none.keep(1), false);
        none.drawn(1, 0);
        s.due("nothing was kept", none.again(0), false);
    }

    private static void again(Sentences s) {
        s.of("Promise 28: again", "It is as it was kept (an act that can be undone);");
        DuelRound d = bent();
        d.keep(0);
        d.drop(1);
        d.drop(1);
        s.due("again(0)", d.again(0), true);
        s.due("four", d.count(0), 4);
        s.due("b is there", d.beaten(1, 15), 12);
        s.due("three acts", d.count(4), 3);
        s.due("undo()", d.undo(), 2);
        s.due("two", d.count(0), 2);
        s.due("again(0) once more", d.again(0), true);
        s.due("again(0) as it is", d.again(0), true);
        s.due("an act, too", d.count(4), 4);
        for (int i = 0; i < 8; i++) {
            d.again(0);
        }
        s.due("ten at most", d.count(4), 10);
        s.due("it is kept yet", d.alike(0, 1), 0);
        DuelRound two = Check.of("a>b");
        two.keep(1);
        two.join(0);
        two.join(0);
        two.again(1);
        two.join(3);
        s.due("what was there leaves nothing", two.beaten(0, 7), 2);
        s.due("c beats both", two.beaten(2, 7), 3);
    }

    private static void againRefused(Sentences s) {
        s.of("Promise 28: again", "false: others, nothing kept.");
        DuelRound d = bent();
        s.due("nothing kept: again(0)", d.again(0), false);
        s.due("nothing kept: again(1)", d.again(1), false);
        d.keep(1);
        s.due("under 1 alone: again(0)", d.again(0), false);
        for (int k : new int[] {2, 3, -1, MIN, MAX}) {
            s.due("again(" + k + ")", d.again(k), false);
        }
        s.due("no acts", d.count(4), 0);
        s.due("under 1: again(1)", d.again(1), true);
        s.due("no ROUND", new DuelRound().again(0), false);
    }

    private static void alike(Sentences s) {
        s.of("Promise 29: alike", "Whether the ROUND is the one kept under k but for names (1, 0; what 0), "
                + "in how many ARROWS of PLAYERS that are in both they differ (1).");
        DuelRound d = Check.of(Rounds.CYCLE);
        d.keep(0);
        dueAlike(s, "itself", d, 1, 0);
        d.turn(0, 1);
        dueAlike(s, "one turned", d, 0, 1);
        d.turn(1, 2);
        d.turn(0, 2);
        dueAlike(s, "the cycle the other way round", d, 1, 3);
        d.join(0);
        dueAlike(s, "one more", d, 0, 3);
        d.drop(3);
        d.drop(2);
        dueAlike(s, "one fewer", d, 0, 1);
        d.drop(1);
        dueAlike(s, "one alone", d, 0, 0);
        DuelRound row = Rounds.line(8);
        row.keep(0);
        for (int x = 0; x < 8; x++) {
            for (int y = x + 1; y < 8; y++) {
                row.turn(x, y);
            }
        }
        dueAlike(s, "a row backwards", row, 1, 28);
        // Backwards it is another ROUND: the cycle is behind.
        DuelRound tail = Check.of(Rounds.CYCLE + ";a>d;b>d;c>d");
        tail.keep(0);
        for (int x = 0; x < 3; x++) {
            tail.turn(x, 3);
        }
        dueAlike(s, "one ahead of a cycle, not behind", tail, 0, 3);
        // As many wins each, but other ROUNDS: the ring, and the one in which each beats the next three.
        DuelRound ring = Check.of(Rounds.RING);
        ring.keep(0);
        for (int x = 0; x < 7; x++) {
            ring.turn(x, (x + 3) % 7);
        }
        dueAlike(s, "another ring", ring, 0, 7);
    }

    private static void dueAlike(Sentences s, String round, DuelRound d, int names, int arrows) {
        s.due(round + ": alike(0, 0)", d.alike(0, 0), names);
        s.due(round + ": alike(0, 1)", d.alike(0, 1), arrows);
    }

    private static void alikeOthers(Sentences s) {
        s.of("Promise 29: alike", "NONE: others, nothing kept.");
        DuelRound d = bent();
        s.due("nothing kept", d.alike(0, 0), -1);
        d.keep(1);
        s.due("under 1 alone: alike(0, 1)", d.alike(0, 1), -1);
        for (int what : new int[] {2, 3, -1, MIN, MAX}) {
            s.due("alike(1, " + what + ")", d.alike(1, what), -1);
        }
        for (int k : new int[] {2, 3, -1, MIN, MAX}) {
            s.due("alike(" + k + ", 0)", d.alike(k, 0), -1);
        }
        s.due("alike(1, 0)", d.alike(1, 0), 1);
        s.due("no ROUND", new DuelRound().alike(0, 0), -1);
    }

    private static void count(Sentences s) {
        s.of("Promise 30: count", "0 PLAYERS, 1 ARROWS, 2 cycles of three PLAYERS, 3 signs of THE TEXT, "
                + "4 what can be undone, 5 PLAYERS that beat all others, as bits.");
        dueCounts(s, "no ROUND", new DuelRound(), 0, 0, 0, 0, 0, 0);
        dueCounts(s, "one alone", Rounds.alone(), 1, 0, 0, 0, 0, 1);
        dueCounts(s, "two", Check.of("b>a"), 2, 1, 0, 0, 0, 2);
        dueCounts(s, "a cycle", Check.of(Rounds.CYCLE), 3, 3, 1, 0, 0, 0);
        dueCounts(s, "bent", bent(), 4, 6, 2, 0, 0, 0);
        dueCounts(s, "the ring", Check.of(Rounds.RING), 7, 21, 14, 0, 0, 0);
        dueCounts(s, "a row of eight", Rounds.line(8), 8, 28, 0, 0, 0, 1);
        DuelRound d = Rounds.line(7);
        Check.say(d, " ".repeat(300));
        d.join(127);
        for (int i = 0; i < 10; i++) {
            d.turn(0, 1);
        }
        dueCounts(s, "full", d, 8, 28, 0, 300, 10, 128);
    }

    private static void dueCounts(Sentences s, String round, DuelRound d, int... due) {
        for (int what = 0; what <= 5; what++) {
            s.due(round + ": count(" + what + ")", d.count(what), due[what]);
        }
    }

    private static void countOthers(Sentences s) {
        s.of("Promise 30: count", "NONE: others.");
        for (int what : new int[] {6, 7, -1, -2, MIN, MAX}) {
            s.due("count(" + what + ")", bent().count(what), -1);
            s.due("no ROUND: count(" + what + ")", new DuelRound().count(what), -1);
        }
    }
}
