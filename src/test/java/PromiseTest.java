/** Each promise by hand: ordinary inputs, the edges that the document names, wrong inputs. */
public final class PromiseTest {
    private static final String CYCLE = Rounds.CYCLE;
    private static final String LINE = Rounds.LINE;
    private static final String BENT = Rounds.BENT;
    private static final String RING = Rounds.RING;

    private static final int MIN = Integer.MIN_VALUE;
    private static final int MAX = Integer.MAX_VALUE;

    private static final Check CHECK = new Check("PromiseTest");

    public static void main(String[] args) {
        newObject();
        sign();
        end();
        round();
        drawn();
        duel();
        beaten();
        turn();
        join();
        drop();
        set();
        praised();
        within();
        chain();
        best();
        byWins();
        weight();
        keeps();
        is();
        cup();
        winner();
        judge();
        judgeWrong();
        judged();
        fewest();
        selves();
        undo();
        keep();
        again();
        alike();
        count();
        CHECK.end();
    }

    private static void due(String call, long got, long want) {
        CHECK.due(call, got, want);
    }

    private static void due(String call, boolean got, boolean want) {
        CHECK.due(call, got, want);
    }

    /** 1: all that needs a ROUND is refused. */
    private static void newObject() {
        DuelRound d = new DuelRound();
        for (int what = 0; what <= 5; what++) {
            due("new: count(" + what + ")", d.count(what), 0);
        }
        CHECK.dueThrow(d, 0, 1, 0);
        CHECK.dueThrow(d, 0, 1, 7);
        due("new: beaten", d.beaten(0, 0), -1);
        due("new: turn", d.turn(0, 1), -2);
        due("new: turn twice", d.turn(3, 3), -1);
        due("new: join", d.join(0), -2);
        due("new: join others", d.join(1), -1);
        due("new: join below", d.join(-1), -1);
        due("new: drop", d.drop(0), -2);
        due("new: set", d.set(0, 0), -1);
        due("new: praised", d.praised(0, -1), -1);
        due("new: within 0", d.within(0), -1);
        due("new: within 1", d.within(1), -1);
        due("new: chain", d.chain(0, 0, -1), -1);
        due("new: best 0", d.best(0), -1);
        due("new: best 1", d.best(1), -1);
        due("new: best 10", d.best(10), -1);
        due("new: byWins", d.byWins(0), -1);
        due("new: weight", d.weight(0, 0), MIN);
        due("new: keeps", d.keeps(0, 0), -1);
        due("new: is", d.is(0, 0), -1);
        due("new: cup", d.cup(0, -1), -1);
        due("new: winner", d.winner(0), -1);
        due("new: judged", d.judged(2), -1);
        due("new: fewest", d.fewest(0, 0), -1);
        due("new: selves", d.selves(), -1);
        due("new: undo", d.undo(), -2);
        due("new: keep", d.keep(0), false);
        due("new: again", d.again(0), false);
        due("new: alike", d.alike(0, 0), -1);
        due("new: judge", Check.judge(d, "u a b"), -2);
        due("new: judge with a fault", Check.judge(d, "?"), -2);
        due("new: signs behind judge", d.count(3), 0);
        due("NONE", DuelRound.NONE, -1);
        due("NOTHING", DuelRound.NOTHING, MIN);
    }

    private static void sign() {
        DuelRound d = new DuelRound();
        for (int i = 1; i <= 75; i++) {
            due("sign " + i, d.sign(0x20202020), 4 * i);
        }
        due("sign beyond 300", d.sign(0x20202020), -1);
        due("signs stay", d.count(3), 300);
        d.end(297);
        due("sign beyond 300 from 297", d.sign(0x20202020), -1);
        due("signs stay at 297", d.count(3), 297);
        d.end(296);
        due("sign up to 300", d.sign(0x613e6220), 300);
        due("the highest byte first", d.round(), 2);
        due("a beats b", d.duel(0, 1, 0), 1);
        d.sign(0x613e62ff);
        due("a byte of 255", d.round(), -1003);
        d.sign(0xe13e6220);
        due("a high first byte", d.round(), -1000);
        d.sign(0);
        due("zeros", d.round(), -1000);
    }

    private static void end() {
        DuelRound d = new DuelRound();
        due("end(0) of none", d.end(0), true);
        due("end(1) of none", d.end(1), false);
        due("end(-1)", d.end(-1), false);
        d.sign(0x613e6220);
        due("end(5)", d.end(5), false);
        due("end(-1) with signs", d.end(-1), false);
        due("end(MIN)", d.end(MIN), false);
        due("end(MAX)", d.end(MAX), false);
        due("signs stay", d.count(3), 4);
        due("end(4)", d.end(4), true);
        due("signs stay at 4", d.count(3), 4);
        due("end(3)", d.end(3), true);
        due("three signs", d.count(3), 3);
        d.sign(0x3b623e63);
        due("seven signs", d.count(3), 7);
        due("a pair is not told", d.round(), -1007);
    }

    private static void round() {
        DuelRound d = new DuelRound();
        String[] texts = {"", "   ", "a", "a>", "a>b;", "a>b; ", "a>b", " a > b ", "a>b b", "a>a", "a>b;b>a", "a>b;a>b",
            "i>a", "a>i", "A>b", "a<b", "b>c", "a>b;b>c", "a>b;;b>c", ";a>b", "a>b;b>c;c>a", "a>b,b>c",
            " a > b ; c > b ; a > c ", "a>b;b>c;c>a;a>d", "a>c;b>c;c>b", "a>b;a>h", "ab", "a>b>c", "a >a", "h>h"};
        int[] due = {-1000, -1003, -1001, -1002, -1004, -1005, 2, 2, -1004, -1002, -1006, -1006,
            -1000, -1002, -1000, -1001, -1003, -1007, -1004, -1000, 3, -1003,
            3, -1015, -1010, -1007, -1001, -1003, -1003, -1002};
        for (int i = 0; i < texts.length; i++) {
            due("round() of '" + texts[i] + "'", Check.round(d, texts[i]), due[i]);
            due("no signs behind it", d.count(3), 0);
        }
        DuelRound kept = Check.of(CYCLE);
        kept.turn(0, 1);
        kept.keep(0);
        due("a fault", Check.round(kept, "a>b;"), -1004);
        due("players stay", kept.count(0), 3);
        due("arrows stay", kept.duel(1, 0, 0), 1);
        due("acts stay", kept.count(4), 1);
        due("kept stays", kept.alike(0, 0), 1);
        due("a round", Check.round(kept, RING), 7);
        due("nothing can be undone", kept.count(4), 0);
        due("nothing is kept", kept.again(0), false);
        due("arrows are told", kept.beaten(6, 127), 1 | 2 | 8);
        StringBuilder eight = new StringBuilder();
        for (int x = 7; x >= 0; x--) {
            for (int y = 0; y < x; y++) {
                eight.append(eight.length() == 0 ? "" : ";").append((char) ('a' + x)).append('>').append((char) ('a' + y));
            }
        }
        due("eight players", Check.round(d, eight.toString()), 8);
        due("h beats all", d.count(5), 128);
        due("one pair more", Check.round(d, eight + ";a>b"), -1000 - eight.length() - 3);
    }

    private static void drawn() {
        DuelRound d = new DuelRound();
        int[][] wrong = {{0, 0}, {9, 0}, {-1, 5}, {MIN, 0}, {MAX, 0}, {3, -1}, {3, 1000000}, {3, MIN}, {3, MAX}};
        for (int[] w : wrong) {
            due("drawn(" + w[0] + ", " + w[1] + ")", d.drawn(w[0], w[1]), -1);
        }
        due("no round yet", d.count(0), 0);
        // 12345 is odd: b beats a; 1103 * 12345 + 12345 = 13628880, less 13 * 1000003: 628841, odd:
        // c beats a; 1103 * 628841 + 12345 = 693623968, less 693 * 1000003: 621889, odd: c beats b.
        due("drawn(3, 0)", d.drawn(3, 0), 3);
        due("b of 3", d.beaten(1, 7), 1);
        due("c of 3", d.beaten(2, 7), 3);
        // 1103 + 12345 = 13448, even: a beats b.
        due("drawn(2, 1)", d.drawn(2, 1), 2);
        due("a of 2", d.beaten(0, 3), 2);
        // 1103 * 999999 + 12345 = 1103011242, less 1103 * 1000003: 7933, odd: b beats a.
        due("drawn(2, 999999)", d.drawn(2, 999999), 2);
        due("b of 2", d.beaten(1, 3), 1);
        due("drawn(8, 5)", d.drawn(8, 5), 8);
        due("arrows", d.count(1), 28);
        d.turn(0, 1);
        d.keep(0);
        d.sign(0x20202020);
        due("refused", d.drawn(9, 5), -1);
        due("acts stay", d.count(4), 1);
        due("kept stays", d.alike(0, 1), 0);
        due("drawn(1, 5)", d.drawn(1, 5), 1);
        due("nothing can be undone", d.undo(), -3);
        due("nothing is kept", d.alike(0, 1), -1);
        due("signs stay", d.count(3), 4);
    }

    private static void duel() {
        DuelRound d = Check.of(BENT);
        due("a beats b", d.duel(0, 1, 0), 1);
        due("b beats a", d.duel(1, 0, 0), 0);
        due("d beats a", d.duel(3, 0, 0), 1);
        due("a covers b: b beats d", d.duel(0, 1, 1), 0);
        due("b covers c", d.duel(1, 2, 1), 1);
        due("c covers b", d.duel(2, 1, 1), 0);
        due("d covers a: a beats b", d.duel(3, 0, 1), 0);
        due("least between a and d", d.duel(0, 3, 2), 1);
        due("least between b and a", d.duel(1, 0, 2), 3);
        due("none between b and c", d.duel(1, 2, 2), -1);
        due("what 3", d.duel(0, 1, 3), -1);
        due("what -1", d.duel(0, 1, -1), -1);
        due("what MAX", d.duel(0, 1, MAX), -1);
        int[][] wrong = {{0, 0}, {0, 4}, {4, 0}, {-1, 0}, {0, -1}, {8, 9}, {MIN, 0}, {0, MAX}, {33, 1}};
        for (int[] w : wrong) {
            CHECK.dueThrow(d, w[0], w[1], 0);
            CHECK.dueThrow(d, w[0], w[1], 3);
        }
    }

    private static void beaten() {
        DuelRound d = Check.of(BENT);
        due("a of all", d.beaten(0, 15), 6);
        due("a of others", d.beaten(0, 10), 2);
        due("a of nobody", d.beaten(0, 0), 0);
        due("d of all", d.beaten(3, 15), 1);
        due("others than players", d.beaten(0, 16), -1);
        due("below", d.beaten(0, -1), -1);
        due("MIN", d.beaten(0, MIN), -1);
        due("no player", d.beaten(4, 1), -1);
        due("player -1", d.beaten(-1, 1), -1);
    }

    private static void turn() {
        DuelRound d = Check.of(CYCLE);
        due("turn(0, 1)", d.turn(0, 1), 1);
        due("turn(0, 1) again", d.turn(0, 1), 0);
        due("turn(0, 2)", d.turn(0, 2), 0);
        due("a beats all", d.beaten(0, 7), 6);
        due("c beats nobody", d.beaten(2, 7), 0);
        due("twice", d.turn(1, 1), -1);
        due("no player twice", d.turn(5, 5), -1);
        due("no player", d.turn(0, 3), -2);
        due("no player first", d.turn(3, 0), -2);
        due("below", d.turn(-1, 0), -2);
        due("far", d.turn(MAX, MIN), -2);
        due("acts", d.count(4), 3);
    }

    private static void join() {
        DuelRound d = Check.of(CYCLE);
        due("join(5)", d.join(5), 4);
        due("d beats a and c", d.beaten(3, 15), 5);
        due("b beats c and d", d.beaten(1, 15), 12);
        due("a beats b alone", d.beaten(0, 15), 2);
        due("others", d.join(16), -1);
        due("below", d.join(-1), -1);
        due("MIN", d.join(MIN), -1);
        for (int n = 5; n <= 8; n++) {
            due("join(0) up to " + n, d.join(0), n);
        }
        due("a ninth", d.join(0), -3);
        due("a ninth who beats all", d.join(255), -3);
        due("a ninth with others", d.join(256), -1);
        due("arrows", d.count(1), 28);
        due("acts", d.count(4), 5);
        DuelRound one = Rounds.alone();
        due("join of one", one.join(1), 2);
        due("who beats", one.duel(1, 0, 0), 1);
    }

    private static void drop() {
        DuelRound d = Check.of(BENT);
        due("no player", d.drop(4), -2);
        due("below", d.drop(-1), -2);
        due("far", d.drop(MAX), -2);
        due("drop(1)", d.drop(1), 3);
        due("a beats the former c", d.beaten(0, 7), 2);
        due("the former c beats the former d", d.beaten(1, 7), 4);
        due("the former d beats a", d.beaten(2, 7), 1);
        due("drop(2)", d.drop(2), 2);
        due("drop(0)", d.drop(0), 1);
        due("the last", d.drop(0), -3);
        due("no player of one", d.drop(1), -2);
        due("acts", d.count(4), 3);
    }

    private static void set() {
        DuelRound d = Check.of(BENT);
        int[] due = {15, 3, 11, 11, 11, 1, 11, 11, 11, 3};
        for (int kind = 0; kind < 10; kind++) {
            due("bent: set(" + kind + ", all)", d.set(kind, 15), due[kind]);
            due("bent: set(" + kind + ", nobody)", d.set(kind, 0), 0);
            due("bent: set(" + kind + ", c alone)", d.set(kind, 4), 4);
            due("bent: set(" + kind + ", c and d)", d.set(kind, 12), 4);
            due("bent: set(" + kind + ", a, b, c)", d.set(kind, 7), kind == 9 ? 0 : 1);
            due("bent: set(" + kind + ", a, b, d)", d.set(kind, 11), kind == 9 ? 0 : 11);
            due("bent: set(" + kind + ", others)", d.set(kind, 16), -1);
            due("bent: set(" + kind + ", below)", d.set(kind, -1), -1);
        }
        due("kind 10", d.set(10, 15), -1);
        due("kind -1", d.set(-1, 15), -1);
        due("kind 10 of nobody", d.set(10, 0), -1);
        due("kind MIN", d.set(MIN, 15), -1);
        DuelRound ring = Check.of(RING);
        for (int kind = 0; kind < 9; kind++) {
            due("ring: set(" + kind + ", all)", ring.set(kind, 127), 127);
        }
        due("ring: cup", ring.set(9, 127), 0);
        setsThatDiffer();
    }

    private static void setsThatDiffer() {
        DuelRound d = Check.of(Rounds.FIVE);
        int[] sets = {31, 16, 29, 28, 29, 16, 28, 28, 28, 0};
        for (int kind = 0; kind < 10; kind++) {
            due("five: set(" + kind + ", all)", d.set(kind, 31), sets[kind]);
        }
    }

    private static void praised() {
        DuelRound d = Check.of(BENT);
        int[] kinds = {9, 8, 1, 7};
        for (int x = 0; x < 4; x++) {
            due("bent: praised(" + x + ", -1)", d.praised(x, -1), kinds[x]);
        }
        due("c of top", d.praised(2, 0), 1);
        due("c of uncovered", d.praised(2, 2), 0);
        due("a of slater", d.praised(0, 5), 1);
        due("b of slater", d.praised(1, 5), 0);
        due("kind 9", d.praised(0, 9), -1);
        due("what -2", d.praised(0, -2), -1);
        due("no player", d.praised(4, -1), -1);
        due("below", d.praised(-1, -1), -1);
    }

    private static void within() {
        DuelRound d = Check.of(BENT);
        // 15, 3, 11 six times, 1: within others are 15 none, 3 seven, each 11 five and top, 1 all eight.
        due("bent: within(0)", d.within(0), 7 + 6 * 6 + 8);
        due("bent: within(1)", d.within(1), 10);
        due("what 2", d.within(2), -1);
        due("what -1", d.within(-1), -1);
        DuelRound line = Check.of(LINE);
        due("line: within(0)", line.within(0), 72);
        due("line: within(1)", line.within(1), -1);
    }

    private static void chain() {
        DuelRound d = Check.of(BENT);
        // d beats a, but not b; so a, b.
        due("a: length", d.chain(0, 15, -1), 2);
        due("a: 0", d.chain(0, 15, 0), 0);
        due("a: 1", d.chain(0, 15, 1), 1);
        due("a: 2", d.chain(0, 15, 2), -1);
        due("a: MAX", d.chain(0, 15, MAX), -1);
        due("a: -2", d.chain(0, 15, -2), -1);
        // a beats b and c, but not d; and b, c, d is less than b, d.
        due("b: 1", d.chain(1, 15, 1), 2);
        due("b: 2", d.chain(1, 15, 2), 3);
        due("b: length", d.chain(1, 15, -1), 3);
        // a and b beat c; b beats d.
        due("c: length", d.chain(2, 15, -1), -3);
        due("c: 0", d.chain(2, 15, 0), -3);
        due("c: -2", d.chain(2, 15, -2), -1);
        due("c of c, d", d.chain(2, 12, -1), 1);
        due("d: length", d.chain(3, 15, -1), 2);
        due("d: 1", d.chain(3, 15, 1), 0);
        due("a not of some", d.chain(0, 14, -1), -1);
        due("others", d.chain(0, 31, -1), -1);
        due("no player", d.chain(4, 15, -1), -1);
        due("below", d.chain(-1, 15, -1), -1);
        due("one alone", Rounds.alone().chain(0, 1, -1), 1);
        DuelRound ring = Check.of(RING);
        // d, f, g beat a; d, f, g do not all beat b: a, b is topped by f alone; c stops f.
        due("ring: length", ring.chain(0, 127, -1), 3);
        due("ring: 1", ring.chain(0, 127, 1), 1);
        due("ring: 2", ring.chain(0, 127, 2), 2);
    }

    private static void best() {
        DuelRound d = Check.of(BENT);
        due("bent: turned", d.best(0), 1);
        due("bent: how many", d.best(1), 1);
        for (int i = 0; i < 4; i++) {
            due("bent: " + i, d.best(10 + i), i);
        }
        int[] wrong = {-1, 2, 9, 14, 18, MIN, MAX};
        for (int what : wrong) {
            due("bent: best(" + what + ")", d.best(what), -1);
        }
        DuelRound ring = Check.of(RING);
        due("ring: turned", ring.best(0), 7);
        due("one: turned", Rounds.alone().best(0), 0);
        due("one: how many", Rounds.alone().best(1), 1);
        due("one: first", Rounds.alone().best(10), 0);
        due("one: second", Rounds.alone().best(11), -1);
        DuelRound two = Check.of("b>a");
        due("two: first", two.best(10), 1);
        due("two: second", two.best(11), 0);
    }

    private static void byWins() {
        DuelRound d = Check.of(BENT);
        // a, b (two wins each), c, d (one each): the arrow of d and a alone.
        due("bent: turned", d.byWins(0), 1);
        due("bent: more", d.byWins(1), 0);
        due("what 2", d.byWins(2), -1);
        due("what -1", d.byWins(-1), -1);
        // The like ones as they stand: a, b, c with c > a.
        due("cycle: turned", Check.of(CYCLE).byWins(0), 1);
        due("cycle the other way: turned", Check.of("b>a;c>b;a>c").byWins(0), 2);
        due("cycle the other way: more", Check.of("b>a;c>b;a>c").byWins(1), 1);
        due("one", Rounds.alone().byWins(0), 0);
    }

    private static void weight() {
        DuelRound d = Check.of(BENT);
        int[] weights = {1, 1, 0, 1};
        int[] gains = {0, 0, -1, 0};
        for (int x = 0; x < 4; x++) {
            due("bent: weight(" + x + ", 0)", d.weight(x, 0), weights[x]);
            due("bent: weight(" + x + ", 1)", d.weight(x, 1), gains[x]);
        }
        due("no player", d.weight(4, 0), MIN);
        due("below", d.weight(-1, 0), MIN);
        due("what 2", d.weight(0, 2), MIN);
        due("what -1", d.weight(0, -1), MIN);
        DuelRound five = Check.of(Rounds.UNLIKE_WEIGHTS);
        int[] unlike = {1, 1, 3, 3, 1};
        for (int x = 0; x < 5; x++) {
            due("five: weight(" + x + ", 0)", five.weight(x, 0), unlike[x]);
            due("five: weight(" + x + ", 1)", five.weight(x, 1), 0);
        }
        due("line: a", Check.of(LINE).weight(0, 0), 1);
        due("line: d", Check.of(LINE).weight(3, 0), 0);
        due("line: d gains", Check.of(LINE).weight(3, 1), -1);
        due("one", Rounds.alone().weight(0, 0), 1);
    }

    private static void keeps() {
        DuelRound d = Check.of(BENT);
        due("a", d.keeps(0, 15), 8);
        due("b", d.keeps(1, 15), 1);
        due("c: a and b", d.keeps(2, 15), 1);
        due("d: b and c", d.keeps(3, 15), 2);
        due("d of c, d", d.keeps(3, 12), 4);
        due("d of c", d.keeps(3, 4), 4);
        due("d of a", d.keeps(3, 1), 0);
        due("d of nobody", d.keeps(3, 0), 0);
        due("others", d.keeps(0, 16), -1);
        due("below", d.keeps(0, -1), -1);
        due("no player", d.keeps(4, 15), -1);
        due("player -1", d.keeps(-1, 15), -1);
        DuelRound ring = Check.of(RING);
        // d, f, g beat a, and are a cycle.
        due("ring: a", ring.keeps(0, 127), 8 | 32 | 64);
    }

    private static void is() {
        DuelRound d = Check.of(BENT);
        for (int set = 0; set < 16; set++) {
            boolean so = set == 11 || set == 15;
            due("bent: is(" + set + ", 0)", d.is(set, 0), so ? 1 : 0);
            due("bent: is(" + set + ", 1)", d.is(set, 1), so ? 1 : 0);
        }
        due("others", d.is(16, 0), -1);
        due("below", d.is(-1, 1), -1);
        due("what 2", d.is(15, 2), -1);
        due("what -1", d.is(15, -1), -1);
        DuelRound line = Check.of(LINE);
        due("line: a covers", line.is(1, 0), 1);
        due("line: a keeps", line.is(1, 1), 1);
        due("line: a, c keep", line.is(5, 1), 1);
        due("line: b keeps", line.is(2, 1), 0);
        due("line: nobody keeps", line.is(0, 1), 0);
        due("line: nobody covers", line.is(0, 0), 0);
    }

    private static void cup() {
        DuelRound d = Check.of(BENT);
        // a, b | c, d: a beats c. a, c | b, d: a beats b. a, d | b, c: b beats d.
        int[] rows = {16, 8, 0, 0};
        for (int x = 0; x < 4; x++) {
            due("bent: cup(" + x + ", -1)", d.cup(x, -1), rows[x]);
        }
        int[] least = {0, 3, 1, 2};
        for (int i = 0; i < 4; i++) {
            due("bent: cup(0, " + i + ")", d.cup(0, i), i);
            due("bent: cup(1, " + i + ")", d.cup(1, i), least[i]);
            due("bent: cup(2, " + i + ")", d.cup(2, i), -3);
        }
        due("i 4", d.cup(0, 4), -1);
        due("i -2", d.cup(0, -2), -1);
        due("i 4 without a row", d.cup(2, 4), -1);
        due("no player", d.cup(4, -1), -1);
        due("below", d.cup(-1, -1), -1);
        DuelRound three = Check.of(CYCLE);
        due("three", three.cup(0, -1), -3);
        due("three, i 0", three.cup(0, 0), -3);
        due("three, i 3", three.cup(0, 3), -1);
        due("three, no player", three.cup(3, -1), -1);
        DuelRound eight = Check.of(RING);
        eight.join(0);
        int sum = 0;
        for (int x = 0; x < 8; x++) {
            sum += eight.cup(x, -1);
        }
        due("eight: all rows", sum, 40320);
        due("eight: all but h are alike", eight.cup(0, -1), 5760);
        due("eight: h", eight.cup(7, -1), 0);
        due("eight: h has no row", eight.cup(7, 0), -3);
        due("one", Rounds.alone().cup(0, -1), 1);
        due("one, first", Rounds.alone().cup(0, 0), 0);
        due("one, second", Rounds.alone().cup(0, 1), -1);
    }

    private static void winner() {
        DuelRound d = Check.of(BENT);
        due("a, b, c, d", d.winner(0), 0);
        due("all", d.winner(15), 0);
        due("a, d, b, c", d.winner(9), 1);
        due("b, c, a, d", d.winner(6), 1);
        due("b, d, a, c", d.winner(10), 0);
        due("d, a, b, c", d.winner(8), 1);
        due("others", d.winner(16), -1);
        due("below", d.winner(-1), -1);
        DuelRound three = Check.of(CYCLE);
        due("three", three.winner(0), -3);
        due("three, others", three.winner(8), -1);
        due("one", Rounds.alone().winner(0), 0);
        due("one, all", Rounds.alone().winner(1), 0);
        due("two", Check.of("b>a").winner(0), 1);
        DuelRound eight = Check.of(RING);
        eight.join(127);
        due("eight: h", eight.winner(0), 7);
    }

    private static void judge() {
        DuelRound d = Check.of(BENT);
        String[] texts = {"", " ", "u", "u a", "u a b", "u a b c d", "u a b 1", "x", "k", "k a", "k a 1", "s", "s a",
            "s 1", "s 1 2", "s1234a", "s 1 a;", "s 1 a; ", "w", "w a", "w a 1", "w a 1 2 3 4", "w a 1 b", "w a 1000",
            "w 1 a", "c", "c a;k", "r", "r i", "r a,", "u a b;;u a b", "ka;kb", " u a b ; k a ", "k a" + (char) 0};
        int[] due = {-1000, -1001, -1001, -1003, 1, -1008, -1006, -1000, -1001, 0, -1004, -1001, -1002,
            -1003, -1005, -1004, -1006, -1007, -1001, -1003, 0, -1010, -1007, -1007,
            -1002, -1001, -1005, -1001, -1002, -1003, -1006, 0, 1, -1003};
        for (int i = 0; i < texts.length; i++) {
            due("judge() of '" + texts[i] + "'", Check.judge(d, texts[i]), due[i]);
            due("no signs behind it", d.count(3), 0);
        }
        due("a right line of each kind", Check.judge(d,
                "u a b; u a d b; k a b; k b d; s 1 a b c d; w a 1 b 1 d 1; c a b d; r d b a; c a b c d"), 9);
        due("digits with blanks between", Check.judge(d, "w a 1 0 0 b 10 0 d 1 00"), 1);
        due("a number with zeros ahead", Check.judge(d, "s 001 a b c d"), 1);
        due("as many letters as there is room", Check.judge(d, "k" + "a".repeat(299)), 0);
        due("as many lines as there is room", Check.judge(d, "ka;".repeat(99) + "ka"), 0);
        due("lines of it", d.judged(2), 100);
        due("an end that comes too early", Check.judge(d, "ka;".repeat(100)), -1300);
        due("the round stays", d.count(1), 6);
    }

    private static void judgeWrong() {
        DuelRound d = Check.of(BENT);
        String[] lines = {"u a e", "k e", "s 1 a b c e", "w e 0", "c h", "r e e",
            "u a a", "u a b a", "k a b a", "s 1 a b c c", "w a 1 a 1", "c a a", "r b b",
            "u b a", "u a b d", "u d b c", "k b a", "k a b d",
            "k c", "k a", "s 1 a b c", "s 1 a", "w a 0", "w a 0 b 000",
            "s 2 a b c d", "s 0 a b c d", "s 2 b a c d", "s 3 d a b c", "w a 1", "w a 2 b 1 d 1", "w a 1 b 1 c 1 d 1",
            "c a b", "c c", "r a", "r a b"};
        int[] due = {1, 1, 1, 1, 1, 1,
            2, 2, 2, 2, 2, 2, 2,
            3, 3, 3, 3, 3,
            4, 4, 4, 4, 4, 4,
            5, 5, 5, 5, 5, 5, 5,
            5, 5, 5, 5};
        for (int i = 0; i < lines.length; i++) {
            due("judge() of '" + lines[i] + "'", Check.judge(d, lines[i]), 0);
            due("why '" + lines[i] + "'", d.judged(1), due[i]);
        }
        String[] same = {"u a b;u a b", "k a b;u a b;k a b", "w a 1 b 1 d 1;w a 01 b 1 d 001", "c a b d;r a b d;c a b d"};
        for (String text : same) {
            int lineCount = text.split(";").length;
            due("judge() of '" + text + "'", Check.judge(d, text), lineCount - 1);
            due("why '" + text + "'", d.judged(1), 6);
        }
        String[] unlike = {"c a b d;c b a d", "w a 1 b 1 d 1;w a 2 b 2 d 2", "u a b;k a b", "w a 1 b 1 d 1;w a 1 b 1 d 1 c 0"};
        for (String text : unlike) {
            due("judge() of '" + text + "'", Check.judge(d, text), 2);
        }
    }

    private static void judged() {
        DuelRound d = Check.of(BENT);
        for (int what = -1; what < 5; what++) {
            due("ahead of any: judged(" + what + ")", d.judged(what), -1);
        }
        Check.judge(d, "u a");
        due("ahead of any without a fault", d.judged(2), -1);
        due("judge()", Check.judge(d, "k b d; u a b; s 1 a b c d; k c; k d a; u b a"), 3);
        due("judged(0)", d.judged(0), 3);
        due("judged(1)", d.judged(1), 4);
        due("judged(2)", d.judged(2), 6);
        due("judged(3)", d.judged(3), 3);
        due("judged(4)", d.judged(4), -1);
        due("judged(-1)", d.judged(-1), -1);
        Check.judge(d, "u a");
        due("a fault leaves it", d.judged(2), 6);
        d.drawn(3, 3);
        due("a new round leaves it", d.judged(3), 3);
        d.undo();
        due("refused calls leave it", d.judged(0), 3);
        Check.round(d, BENT);
        due("judge() of right ones", Check.judge(d, "k d a; u d a; c a b d"), 3);
        due("none is wrong", d.judged(0), -1);
        due("no reason", d.judged(1), 0);
        due("lines", d.judged(2), 3);
        due("firsts", d.judged(3), 8);
    }

    private static void fewest() {
        DuelRound d = Check.of(LINE);
        for (int kind = 0; kind < 10; kind++) {
            due("line: fewest(0, " + kind + ")", d.fewest(0, kind), 0);
            due("line: fewest(0, " + kind + ") leaves all", d.beaten(0, 15), 14);
        }
        // Against a alone b gets into a cycle, or c does; d, if it beats a.
        due("line: b to top", d.fewest(1, 0), 1);
        due("line: d to top", d.fewest(3, 0), 1);
        due("line: c to most", d.fewest(2, 1), 1);
        due("line: d to most", d.fewest(3, 1), 2);
        due("line: d to uncovered", d.fewest(3, 2), 1);
        due("line: d to the cup", d.fewest(3, 9), 2);
        due("no player", d.fewest(4, 0), -1);
        due("below", d.fewest(-1, 0), -1);
        due("kind 10", d.fewest(0, 10), -1);
        due("kind -1", d.fewest(0, -1), -1);
        DuelRound eight = new DuelRound();
        eight.drawn(1, 0);
        for (int n = 2; n <= 8; n++) {
            eight.join(0);
        }
        due("eight: h to most", eight.fewest(7, 1), -2);
        due("eight: h to slater", eight.fewest(7, 5), -2);
        due("eight: h to the cup", eight.fewest(7, 9), -2);
        due("eight: h to top", eight.fewest(7, 0), 1);
        due("eight: arrows stay", eight.count(2), 0);
        due("eight: acts stay", eight.count(4), 7);
        due("three to the cup", Check.of(CYCLE).fewest(0, 9), -2);
        due("one to the cup", Rounds.alone().fewest(0, 9), 0);
    }

    private static void selves() {
        due("one", Rounds.alone().selves(), 1);
        due("cycle", Check.of(CYCLE).selves(), 3);
        due("line", Check.of(LINE).selves(), 1);
        DuelRound ring = Check.of(RING);
        due("ring", ring.selves(), 21);
        ring.join(0);
        due("ring and one", ring.selves(), 21);
        ring.turn(7, 0);
        due("ring and one who beats a", ring.selves(), 3);
    }

    private static void undo() {
        DuelRound d = Check.of(CYCLE);
        due("none", d.undo(), -3);
        for (int i = 1; i <= 12; i++) {
            d.turn(0, i % 2 + 1);
            due("acts", d.count(4), Math.min(i, 10));
        }
        // Six turns each; two were done ahead of the latest ten.
        for (int i = 9; i >= 0; i--) {
            due("undo()", d.undo(), i);
        }
        due("no more", d.undo(), -3);
        due("a and b are as behind two turns", d.duel(1, 0, 0), 1);
        due("a and c are as behind two turns", d.duel(0, 2, 0), 1);
        d.join(7);
        d.drop(1);
        d.keep(0);
        d.turn(0, 1);
        d.again(0);
        due("undo again()", d.undo(), 3);
        due("the turn stands", d.alike(0, 1), 1);
        due("undo turn()", d.undo(), 2);
        due("as kept", d.alike(0, 1), 0);
        due("undo drop()", d.undo(), 1);
        due("four", d.count(0), 4);
        due("d beats all", d.count(5), 8);
        due("undo join()", d.undo(), 0);
        due("three", d.count(0), 3);
        due("kept stays", d.again(0), true);
    }

    private static void keep() {
        DuelRound d = new DuelRound();
        due("no round", d.keep(0), false);
        d.drawn(3, 9);
        due("keep(0)", d.keep(0), true);
        due("keep(1)", d.keep(1), true);
        due("keep(2)", d.keep(2), false);
        due("keep(-1)", d.keep(-1), false);
        due("keep(MIN)", d.keep(MIN), false);
        due("no act", d.count(4), 0);
        d.turn(0, 1);
        due("keep(1) anew", d.keep(1), true);
        due("under 0 the former", d.alike(0, 1), 1);
        due("under 1 the latter", d.alike(1, 1), 0);
    }

    private static void again() {
        DuelRound d = Check.of(BENT);
        due("nothing kept", d.again(0), false);
        d.keep(1);
        due("nothing kept under 0", d.again(0), false);
        due("again(2)", d.again(2), false);
        due("again(-1)", d.again(-1), false);
        due("refused calls are no acts", d.count(4), 0);
        d.drop(0);
        due("again(1)", d.again(1), true);
        due("four", d.count(0), 4);
        due("as told", d.beaten(3, 15), 1);
        due("acts", d.count(4), 2);
        due("again(1) as it is", d.again(1), true);
        due("an act, too", d.count(4), 3);
        d.undo();
        d.undo();
        due("undone", d.count(0), 3);
    }

    private static void alike() {
        DuelRound d = Check.of(CYCLE);
        due("nothing kept", d.alike(0, 0), -1);
        d.keep(0);
        due("itself", d.alike(0, 0), 1);
        due("no arrow", d.alike(0, 1), 0);
        due("what 2", d.alike(0, 2), -1);
        due("what -1", d.alike(0, -1), -1);
        due("k 1", d.alike(1, 0), -1);
        due("k 2", d.alike(2, 0), -1);
        due("k -1", d.alike(-1, 0), -1);
        d.turn(0, 1);
        due("one turned", d.alike(0, 0), 0);
        due("one arrow", d.alike(0, 1), 1);
        d.turn(1, 2);
        d.turn(0, 2);
        due("the other way round", d.alike(0, 0), 1);
        due("three arrows", d.alike(0, 1), 3);
        d.join(0);
        due("four", d.alike(0, 0), 0);
        due("of three in both", d.alike(0, 1), 3);
        d.drop(0);
        d.drop(0);
        due("two", d.alike(0, 0), 0);
        due("of two in both", d.alike(0, 1), 0);
    }

    private static void count() {
        DuelRound d = Check.of(BENT);
        int[] due = {4, 6, 2, 0, 0, 0};
        for (int what = 0; what < 6; what++) {
            due("bent: count(" + what + ")", d.count(what), due[what]);
        }
        due("what 6", d.count(6), -1);
        due("what -1", d.count(-1), -1);
        due("what MAX", d.count(MAX), -1);
        d.turn(0, 3);
        d.sign(0);
        int[] then = {4, 6, 0, 4, 1, 1};
        for (int what = 0; what < 6; what++) {
            due("line: count(" + what + ")", d.count(what), then[what]);
        }
        due("ring: cycles", Check.of(RING).count(2), 14);
        due("one: beats all others", Rounds.alone().count(5), 1);
    }
}
