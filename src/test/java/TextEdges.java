/** What the document begins with, and term 1: the ROUND and its TEXT, at the boundaries that it names. */
final class TextEdges {
    private static final String TERMS = "Terms";

    private TextEdges() {
    }

    static void ask(Sentences s) {
        calls(s);
        players(s);
        text(s);
        pairs(s);
        told(s);
        blanks(s);
        faultAtSign(s);
        faultSameLetter(s);
        faultToldPair(s);
        faultNotTold(s);
        bits(s);
        some(s);
        s.noCase(TERMS, "1. ");
    }

    private static void calls(Sentences s) {
        s.of("What it is", "An object is used for at most 512 calls after it has been made; what later calls answer is free.");
        DuelRound d = new DuelRound();
        s.due("call 1: drawn(8, 1)", d.drawn(8, 1), 8);
        // Of the seed 1 a beats b at first.
        for (int call = 2; call <= 510; call++) {
            s.due("call " + call + ": turn(0, 1)", d.turn(0, 1), call % 2 == 0 ? 1 : 0);
        }
        s.due("call 511: count(4)", d.count(4), 10);
        s.due("call 512: duel(0, 1, 0)", d.duel(0, 1, 0), 0);
        DuelRound judging = new DuelRound();
        s.due("call 1: drawn(8, 0)", judging.drawn(8, 0), 8);
        for (int call = 2; call <= 509; call += 3) {
            s.due("call " + call + ": sign()", judging.sign(0x6b20683b), 4);
            s.due("call " + (call + 1) + ": end(3)", judging.end(3), true);
            s.due("call " + (call + 2) + ": judge()", judging.judge(), 0);
        }
        s.due("call 512: count(3)", judging.count(3), 0);
    }

    private static void players(Sentences s) {
        s.of(TERMS, "A ROUND of PLAYERS a, b .. (0, 1 .., 8 at most): of each two of them one beats the other one (an ARROW).");
        DuelRound d = new DuelRound();
        for (int n = 1; n <= 8; n++) {
            s.due("drawn(" + n + ", 77)", d.drawn(n, 77), n);
            s.due("ARROWS of " + n, d.count(1), n * (n - 1) / 2);
            for (int x = 0; x < n; x++) {
                for (int y = 0; y < x; y++) {
                    s.due("one of " + x + ", " + y, d.duel(x, y, 0) + d.duel(y, x, 0), 1);
                }
            }
        }
        s.due("drawn(9, 77)", d.drawn(9, 77), -1);
        s.due("a ninth by join()", d.join(0), -3);
        s.due("a ninth by a text", Check.round(d, "a>i"), -1002);
        s.due("8 stay", d.count(0), 8);
    }

    private static void text(Sentences s) {
        s.of(TERMS, "THE TEXT (300 signs at most) of it: PAIR {; PAIR}.");
        DuelRound d = new DuelRound();
        s.dueRounds(d,
                "a>b" + " ".repeat(297), 2,
                " ".repeat(297) + "b>a", 2,
                " ".repeat(296) + "a>b;", -1300,
                "", -1000,
                ";", -1000,
                ";a>b", -1000,
                "a>b;", -1004,
                "a>b;;a>c;b>c", -1004,
                "a>b;a>c;b>c", 3,
                Rounds.lineText(8), 8);
        for (int i = 1; i <= 75; i++) {
            d.sign(0x20202020);
        }
        s.due("sign() with 300", d.sign(0x20202020), -1);
        s.due("300 stay", d.count(3), 300);
    }

    private static void pairs(Sentences s) {
        s.of(TERMS, "PAIR: X > Y (X beats Y), letters a .. h.");
        DuelRound d = new DuelRound();
        s.due("b>a", Check.round(d, "b>a"), 2);
        s.due("b beats a", d.duel(1, 0, 0), 1);
        s.due("a does not beat b", d.duel(0, 1, 0), 0);
        // The signs next to a, h and >.
        s.dueRounds(d,
                "`>b", -1000, "i>b", -1000, "A>b", -1000, "H>b", -1000, "1>b", -1000,
                "a>`", -1002, "a>i", -1002, "a>B", -1002, "a>2", -1002,
                "h>a", -1003, "a>h", -1003,
                "a=b", -1001, "a?b", -1001, "a<b", -1001, "a-b", -1001);
        String right = Rounds.lineText(8);
        s.dueRounds(d, right, 8, right.replace('h', 'i'), -1000 - right.indexOf('h'));
    }

    private static void told(Sentences s) {
        s.of(TERMS, "PLAYERS are a up to the last letter told; each two of them must be told just once.");
        DuelRound d = new DuelRound();
        s.dueRounds(d,
                "a>b", 2,
                "c>b;a>c;b>a", 3,
                "c>a;c>b;b>a", 3,
                // a is a PLAYER, though it is not told.
                "b>c", -1003,
                "g>h", -1003,
                "a>b;a>c;b>c;a>d;b>d", -1019,
                "a>b;a>c;b>c;a>d;b>d;d>c", 4,
                "a>b;a>c;b>c;a>d;b>d;d>c;c>d", -1026);
    }

    private static void blanks(Sentences s) {
        s.of(TERMS, "Blanks (32) may stand ahead of all signs, and at the end.");
        DuelRound d = new DuelRound();
        s.dueRounds(d,
                "   a  >  b   ", 2,
                " a > b ; a > c ; b > c ", 3,
                "  a>b;b>c;c>a", 3,
                "a>b;b>c;c>a   ", 3);
        // The signs next to 32, and those that look like a blank elsewhere.
        for (char sign : new char[] {31, 33, 9, 10, 13, 0, 95, 160, 255}) {
            int number = sign;
            s.due("round() with " + number + " first", Check.round(d, sign + "a>b"), -1000);
            s.due("round() with " + number + " ahead of >", Check.round(d, "a" + sign + ">b"), -1001);
            s.due("round() with " + number + " ahead of b", Check.round(d, "a>" + sign + "b"), -1002);
            s.due("round() with " + number + " at the end", Check.round(d, "a>b" + sign), -1003);
        }
    }

    private static void faultAtSign(Sentences s) {
        s.of(TERMS, "FAULT, the first sign from the left that makes one: one that can't stand there "
                + "(the length, if it ends too early),");
        DuelRound d = new DuelRound();
        s.dueRounds(d,
                // Of two that make one, the first.
                "a>x;y", -1002, "a>a;?", -1002, "a>b;b>a;?", -1006, "?>?", -1000, "a>c;x", -1004,
                // Each place with a sign that stands elsewhere.
                ">", -1000, "ab", -1001, "a;", -1001, "a b", -1002, "a>>b", -1002, "a>;", -1002,
                "a>bc", -1003, "a>b>c", -1003, "a>b c", -1004, "a>b;>", -1004, "a>b;;", -1004,
                // Each place where it can end too early, with blanks, too.
                "", -1000, " ", -1001, "a", -1001, "a ", -1002, "a>", -1002, "a>  ", -1004,
                "a>b;", -1004, "a>b;  ", -1006, "a>b;c", -1005, "a>b;c>", -1006);
    }

    private static void faultSameLetter(Sentences s) {
        s.of(TERMS, "the second letter of a PAIR if it is the first one again,");
        DuelRound d = new DuelRound();
        s.dueRounds(d,
                "a>a", -1002, "h>h", -1002, " a > a ", -1005, "a>a>", -1002, "a>b;c>c", -1006, "a>b;a>a", -1006);
    }

    private static void faultToldPair(Sentences s) {
        s.of(TERMS, "or if that PAIR (either way round) was told;");
        DuelRound d = new DuelRound();
        s.dueRounds(d,
                "a>b;a>b", -1006, "a>b;b>a", -1006, "a>b;b > a", -1008, "a>b;b>c;c>a;c>b", -1014,
                "g>h;a>b;h>g", -1010,
                Rounds.lineText(8) + ";h>g", -1000 - 111 - 3,
                // A PAIR of the same letters, but not of the same two.
                "a>b;a>c;b>c", 3);
    }

    private static void faultNotTold(Sentences s) {
        s.of(TERMS, "the length, if a PAIR is not told.");
        DuelRound d = new DuelRound();
        s.dueRounds(d,
                "a>c", -1003, "b>c", -1003, "a>b;c>a", -1007, "a>b;c>a  ", -1009, "  a>c", -1005,
                Rounds.lineText(8).substring(4), -1000 - 107,
                Rounds.lineText(8).substring(0, 107), -1000 - 107,
                " ".repeat(297) + "b>c", -1300);
        s.due("no ROUND by all this", d.count(0), 0);
    }

    private static void bits(Sentences s) {
        s.of(TERMS, "Sets of PLAYERS are bits.");
        DuelRound d = Rounds.line(8);
        for (int x = 0; x < 8; x++) {
            s.due("one alone, " + x, d.set(0, 1 << x), 1 << x);
            s.due("whom " + x + " beats", d.beaten(x, 255), 255 & -2 << x);
        }
        s.due("a set of 9", d.set(0, 256), -1);
        s.due("a set below 0", d.set(0, -256), -1);
        s.due("the highest bit", d.set(0, Integer.MIN_VALUE), -1);
    }

    private static void some(Sentences s) {
        s.of(TERMS, "Of SOME of them (a set): all is as if there were no others.");
        DuelRound whole = Check.of(Rounds.FIVE);
        for (int some = 1; some < 32; some++) {
            DuelRound left = Check.of(Rounds.FIVE);
            for (int x = 4; x >= 0; x--) {
                if ((some >> x & 1) == 0) {
                    left.drop(x);
                }
            }
            int all = (1 << left.count(0)) - 1;
            for (int kind = 0; kind < 10; kind++) {
                s.due("set(" + kind + ", " + some + ")", whole.set(kind, some), spread(left.set(kind, all), some));
            }
            int first = Integer.numberOfTrailingZeros(some);
            s.due("chain(" + first + ", " + some + ", -1)", whole.chain(first, some, -1), left.chain(0, all, -1));
            s.due("keeps(" + first + ", " + some + ")", whole.keeps(first, some), spread(left.keeps(0, all), some));
        }
    }

    /** A set of those who were left, by the numbers that they had. */
    private static int spread(int set, int some) {
        int spread = 0;
        int place = 0;
        for (int x = 0; x < 8; x++) {
            if ((some >> x & 1) == 1) {
                spread |= (set >> place & 1) << x;
                place++;
            }
        }
        return spread;
    }
}
