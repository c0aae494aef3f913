/** Term 3 and promises 22, 23: PROOFS, at the boundaries that the document names. */
final class ProofEdges {
    private static final String TERMS = "Terms";
    private static final String JUDGE = "Promise 22: judge";
    private static final String JUDGED = "Promise 23: judged";

    private ProofEdges() {
    }

    static void ask(Sentences s) {
        lines(s);
        steps(s);
        chains(s);
        orders(s);
        weights(s);
        sets(s);
        lettersAndNumbers(s);
        blanks(s);
        faults(s);
        wrong(s);
        noPlayer(s);
        twice(s);
        otherWayRound(s);
        notWhole(s);
        notSo(s);
        saidAhead(s);
        judge(s);
        judgeFault(s);
        judgeNoRound(s);
        judgedFirst(s);
        judgedWhy(s);
        judgedLines(s);
        judgedProved(s);
        judgedOthers(s);
        s.noCase(TERMS, "3. ");
    }

    private static DuelRound bent() {
        return Check.of(Rounds.BENT);
    }

    private static void lines(Sentences s) {
        s.of(TERMS, "PROOFS are a TEXT: LINE {; LINE}:");
        s.dueJudges(bent(),
                "", -1000, ";", -1000, "u a b", 1, "u a b;", -1006, ";u a b", -1000, "u a b;;u a c", -1006,
                "u a b;u a c", 2, "u a b u a c", -1006, "u a b,u a c", -1005,
                // As many LINES as 300 signs can have, and one that ends too early.
                "ka;".repeat(99) + "ka ", 0, "ka;".repeat(100), -1300);
    }

    private static void steps(Sentences s) {
        s.of(TERMS, "u X Y (X beats Y) | u X Y Z (X beats Z, Z beats Y)");
        DuelRound d = bent();
        s.dueJudges(d, "u", -1001, "u a", -1003, "u a b", 1, "u b a c", 0, "u a b c d", -1008, "u a b 1", -1006);
        // a beats b, b beats d: from a to d by b.
        s.dueReasons(d, "u a d b", 0, "u a b d", 3, "u a d c", 0, "u d b a", 0, "u d a b", 3, "u a d", 3, "u d a", 0);
    }

    private static void chains(Sentences s) {
        s.of(TERMS, "| k X {X} (a CHAIN)");
        DuelRound d = bent();
        s.dueJudges(d, "k", -1001, "k;", -1001, "k 1", -1002, "k a b", 1, "k a b 1", -1006, "k" + "a".repeat(299), 0);
        s.dueReasons(d, "k a b", 0, "k b c d", 0, "k b d", 0, "k a", 4, "k d a", 0);
        s.dueReasons(Check.of(Rounds.LINE), "k a", 0, "k a b c d", 0, "k b", 4);
        s.dueReasons(Rounds.alone(), "k a", 0);
    }

    private static void orders(Sentences s) {
        s.of(TERMS, "| s N X {X} (an ORDER with just N TURNED ARROWS, and BEST)");
        DuelRound d = bent();
        s.dueJudges(d, "s", -1001, "s a", -1002, "s 1", -1003, "s 1;", -1003, "s 1 a b c d", 1, "s 1 a b c d 1", -1012);
        s.dueReasons(d, "s 1 a b c d", 0, "s 0 a b c d", 5, "s 2 a b c d", 5,
                // Just that many, but not BEST; BEST, but not that many.
                "s 2 a b d c", 5, "s 2 b a c d", 5, "s 3 b a c d", 5, "s 1 d a b c", 5);
        s.dueReasons(Check.of(Rounds.LINE), "s 0 a b c d", 0, "s 1 a b d c", 5, "s 6 d c b a", 5);
        s.dueReasons(Rounds.alone(), "s 0 a", 0, "s 1 a", 5);
    }

    private static void weights(Sentences s) {
        s.of(TERMS, "| w X N {X N} (such WEIGHTS, but for the common divisor; 0 of others)");
        DuelRound d = bent();
        s.dueJudges(d, "w", -1001, "w 1", -1002, "w a", -1003, "w a b", -1004, "w a 1", 0, "w a 1 b", -1007,
                "w a 1 b 1 d 1", 1);
        s.dueReasons(d, "w a 1 b 1 d 1", 0, "w a 2 b 2 d 2", 0, "w a 999 b 999 d 999", 0, "w d 1 a 1 b 1", 0,
                "w a 1 b 1 c 0 d 1", 0, "w a 1 b 1", 5, "w a 2 b 1 d 1", 5,
                // 0 of others, though the LINE ahead told one of them.
                "w a 1 b 1 c 1 d 1", 5, "w a 1 b 1 d 1", 0);
        s.dueReasons(Check.of("b>a"), "w a 1 b 1", 5, "w b 1", 0);
        s.dueReasons(Check.of(Rounds.UNLIKE_WEIGHTS), "w a 1 b 1 c 3 d 3 e 1", 0, "w a 4 b 4 c 12 d 12 e 4", 0,
                "w a 41 b 41 c 123 d 123 e 41", 0, "w a 41 b 41 c 124 d 123 e 41", 5, "w a 4 b 4 c 12 d 21 e 4", 5);
        s.dueReasons(Check.of(Rounds.LINE), "w a 1", 0, "w a 7", 0, "w a 1 b 1", 5, "w b 1", 5);
        s.dueReasons(Rounds.alone(), "w a 1", 0, "w a 0", 4);
    }

    private static void sets(Sentences s) {
        s.of(TERMS, "| c X {X} (a COVERING set) | r X {X} (a KEEPING set).");
        DuelRound d = bent();
        s.dueJudges(d, "c", -1001, "r", -1001, "c;", -1001, "r ;", -1002, "c 1", -1002, "r 1", -1002);
        s.dueReasons(d, "c a b d", 0, "c d b a", 0, "c a b c d", 0, "c a b", 5, "r a b d", 0, "r d a b c", 0, "r b d", 5);
        s.dueReasons(Check.of(Rounds.LINE), "c a", 0, "c b c d", 5, "r a", 0, "r a d", 0, "r d", 5);
        s.dueReasons(Rounds.alone(), "c a", 0, "r a", 0);
    }

    private static void lettersAndNumbers(Sentences s) {
        s.of(TERMS, "X: a letter a .. h, N: a NUMBER of 1 to 3 digits.");
        DuelRound d = bent();
        s.dueJudges(d,
                // The signs next to a, h, 0 and 9.
                "k `", -1002, "k a", 0, "k h", 0, "k i", -1002, "k A", -1002,
                "w a /", -1004, "w a 0", 0, "w a 9", 0, "w a :", -1004,
                "s1abcd", 1, "s01abcd", 1, "s001abcd", 1, "s0001abcd", -1004,
                "w a 999", 0, "w a 1000", -1007, "w a 000", 0, "w a 0000", -1007, "s-1abcd", -1001);
        s.dueReasons(d, "s 001 a b c d", 0, "s 100 a b c d", 5, "w a 999 b 999 d 999", 0, "w a 000", 4);
    }

    private static void blanks(Sentences s) {
        s.of(TERMS, "Blanks as above; between two NUMBERS there is a letter.");
        DuelRound d = bent();
        s.dueJudges(d, "uab", 1, "  u  a  b  ", 1, " u a b ; k a b ", 2, "s1abcd;wa1b1d1;cabd", 3, "   ", -1003);
        for (char sign : new char[] {31, 33, 9, 10, 0, 160}) {
            int number = sign;
            s.due("judge() with " + number, Check.judge(d, "u" + sign + "ab"), -1001);
            s.due("judge() with " + number + " at the end", Check.judge(d, "uab" + sign), -1003);
        }
        // Digits with a blank between are no two NUMBERS.
        s.dueReasons(d, "w a 1 0 b 10 d 1 0", 0);
    }

    private static void faults(Sentences s) {
        s.of(TERMS, "FAULTS as above (a fourth digit at it).");
        s.dueJudges(bent(),
                "w a 1234", -1007, "s 12345 a", -1005, "w a 1 2 3 4", -1010, "s1111", -1004,
                // The first of two; one that can't stand there; the length.
                "k a?;?", -1003, "x", -1000, "U a b", -1000, "a", -1000, "1", -1000, ">", -1000,
                "k a;", -1004, "k a; ", -1005, "k a;k", -1005, "w a ", -1004, "w a 1 b ", -1008, "s ", -1002, "u a ", -1004,
                // A LINE that is WRONG is no FAULT, and a FAULT behind it is one.
                "k c;?", -1004, "u a a;u", -1007);
    }

    private static void wrong(Sentences s) {
        s.of(TERMS, "A LINE is WRONG, the least of:");
        s.dueReasons(bent(),
                // 1 ahead of 2, of 3, of 4, of 5.
                "k e e", 1, "u e a", 1, "s 1 a b e", 1, "w e 0", 1, "c e", 1, "c a e a", 1,
                // 2 ahead of 3, of 4, of 5.
                "u b a b", 2, "k b a b", 2, "k c c", 2, "s 9 a a", 2, "w a 0 a 0", 2, "c c c", 2, "r c c", 2,
                // 3 ahead of 4: a beats both b and c.
                "k c b", 3,
                // 4 ahead of 5.
                "s 9 a b", 4, "w c 0", 4);
        // 6 is of a LINE that would be right: else the one ahead is the first that is WRONG.
        DuelRound d = bent();
        s.due("u b a;u b a", Check.judge(d, "u b a;u b a"), 0);
        s.due("why", d.judged(1), 3);
    }

    private static void noPlayer(Sentences s) {
        s.of(TERMS, "1 a letter is no PLAYER;");
        s.dueReasons(bent(), "k d a", 0, "k e a", 1, "k a e", 1, "k h", 1, "u a e", 1, "u e a", 1, "u a d e", 1,
                "s 1 a b c d e", 1, "w a 1 e 1", 1, "c e", 1, "r h", 1);
        s.dueReasons(Rounds.alone(), "k a", 0, "k b", 1, "w a 1 b 0", 1);
        s.dueReasons(Rounds.line(8), "k a h", 0, "k h", 4);
    }

    private static void twice(Sentences s) {
        s.of(TERMS, "2 a letter stands there twice;");
        s.dueReasons(bent(), "u a a", 2, "u a b a", 2, "u a b b", 2, "k a b a", 2, "k a a", 2, "s 1 a b c d a", 2,
                "w a 1 a 1", 2, "w a 1 b 1 d 1 d 0", 2, "c a b d d", 2, "r a a b d", 2, "c a b d", 0);
        // A NUMBER may stand there twice.
        s.dueReasons(bent(), "w a 1 b 1 d 1", 0);
    }

    private static void otherWayRound(Sentences s) {
        s.of(TERMS, "3 an ARROW is the other way round (u, k);");
        s.dueReasons(bent(), "u b a", 3, "u a b", 0, "u a d b", 0, "u a b d", 3, "u d b c", 3, "u c b a", 3,
                "k b a", 3, "k a b d", 3, "k b c d a", 3, "k b c d", 0);
    }

    private static void notWhole(Sentences s) {
        s.of(TERMS, "4 somebody beats all of the row (k), not all PLAYERS are in the ORDER (s), all N are 0 (w);");
        s.dueReasons(bent(), "k c", 4, "k a c", 0, "k b c", 4, "k c d", 4, "k d", 4,
                "s 1 a b c", 4, "s 0 a", 4, "s 1 a b c d", 0,
                "w a 0", 4, "w a 0 b 0 c 0 d 000", 4, "w a 0 b 0 c 0 d 1", 5);
    }

    private static void notSo(Sentences s) {
        s.of(TERMS, "5 it is not so otherwise (s, w, c, r);");
        s.dueReasons(bent(), "s 2 a b c d", 5, "s 1 a b d c", 5, "w a 1", 5, "w a 1 b 1 d 2", 5, "c a b", 5, "c c", 5,
                "r a", 5, "r a b c", 5);
    }

    private static void saidAhead(Sentences s) {
        s.of(TERMS, "6 a LINE ahead said the same (with the same letters and NUMBERS in that order).");
        DuelRound d = bent();
        String[] same = {"u a b;u a b", "u a b;  uab", "u a b;u a c;u a c", "u a d b;u a b;u a d b", "k a b;k a b", "s 1 a b c d;s 1 a b c d",
            "w a 1 b 1 d 1;w a 1 b 1 d 1", "c a b d;r a b d;c a b d", "r a b d;c a b d;r a b d"};
        for (String text : same) {
            s.due("judge() of '" + text + "'", Check.judge(d, text), text.split(";").length - 1);
            s.due("why '" + text + "'", d.judged(1), 6);
        }
        s.dueJudges(d,
                // Other letters, another order, other NUMBERS, another kind, one more.
                "u a b;u a c", 2, "c a b d;c b a d", 2, "w a 1 b 1 d 1;w a 2 b 2 d 2", 2,
                "w a 1 b 1 d 1;w b 1 a 1 d 1", 2, "u a b;k a b", 2, "c a b d;r a b d", 2, "u a d b;u a d c", 2,
                "k b d;k b c d", 2, "w a 1 b 1 d 1;w a 1 b 1 d 1 c 0", 2, "c a b d;c a b c d", 2);
        // The latest of many LINES says what the first one did.
        StringBuilder many = new StringBuilder("uab");
        for (int i = 1; i <= 40; i++) {
            many.append(";wa").append(i).append('b').append(i).append('d').append(i);
            if (many.length() > 280) {
                break;
            }
        }
        int linesAhead = many.toString().split(";").length;
        s.due("judge() of many", Check.judge(d, many + ";uab"), linesAhead);
        s.due("why of many", d.judged(1), 6);
        // What an earlier judge() was told is not ahead.
        s.dueJudges(d, "u a b", 1, "u a b", 1);
    }

    private static void judge(Sentences s) {
        s.of(JUDGE, "PROOFS of THE TEXT are judged: how many LINES there are ahead of the first that is WRONG (all).");
        s.dueJudges(bent(), "k c", 0, "k a b", 1, "k a b;k c", 1, "k a b;k b d;k c;k d a", 2, "k a b;k b d;k d a", 3,
                "k c;k a;k e", 0);
    }

    private static void judgeFault(Sentences s) {
        s.of(JUDGE, "-1000 and less by p: a FAULT at p;");
        s.dueJudges(bent(), "", -1000, "?", -1000, "k?", -1001, "k a;".repeat(75), -1300,
                "k a;".repeat(74) + "k a?", -1299, " ".repeat(300), -1300);
    }

    private static void judgeNoRound(Sentences s) {
        s.of(JUDGE, "-2: no ROUND (ahead of that).");
        DuelRound d = new DuelRound();
        s.dueJudges(d, "k a", -2, "?", -2, "", -2);
        Check.say(d, "k a?");
        d.judge();
        s.due("THE TEXT is empty", d.count(3), 0);
        s.due("nothing is judged", d.judged(2), -1);
        d.drawn(1, 0);
        s.dueJudges(d, "?", -1000);
    }

    private static void judgedFirst(Sentences s) {
        s.of(JUDGED, "Of the latest judge(): the first LINE that is WRONG (what 0; NONE),");
        dueJudged(s, 0, "k c", 0, "k a b;k c", 1, "k a b;k c;k c", 1, "k a b", -1, "k a b;u a b;k d a", -1,
                "u a b;u a b", 1);
    }

    private static void judgedWhy(Sentences s) {
        s.of(JUDGED, "why (1; 0),");
        dueJudged(s, 1, "k a b", 0, "k e", 1, "k a a", 2, "k b a", 3, "k c", 4, "c c", 5, "c a b d;c a b d", 6,
                "k c;k e", 4, "k a b;u a b", 0);
    }

    private static void judgedLines(Sentences s) {
        s.of(JUDGED, "how many LINES it had (2),");
        dueJudged(s, 2, "k a b", 1, "k c", 1, "k c;k c;k c", 3, "k a b;u a b", 2, "ka;".repeat(99) + "ka", 100);
    }

    private static void judgedProved(Sentences s) {
        s.of(JUDGED, "PLAYERS for whom there was a k or an s that is right, ahead of that, with them first, as bits (3).");
        dueJudged(s, 3, "k a b", 1, "k d a", 8, "k b d;k d a", 10, "s 1 a b c d", 1, "k a b;s 1 a b c d", 1,
                // No k and no s; none right; right ones behind a WRONG one.
                "u b c;c a b d;r a b d;w a 1 b 1 d 1", 0, "k c", 0, "k c;k a b", 0, "k d a;k c;k a b", 8, "k d a;k d a", 8);
        DuelRound cycle = Check.of(Rounds.CYCLE);
        s.due("s of b and of c first", Check.judge(cycle, "s 1 b c a;s 1 c a b"), 2);
        s.due("both", cycle.judged(3), 6);
        DuelRound line = Rounds.line(8);
        Check.judge(line, "k a h;s 0 a b c d e f g h");
        s.due("of eight", line.judged(3), 1);
        line.turn(0, 7);
        s.due("h a is right", Check.judge(line, "k h a"), 1);
        s.due("the eighth", line.judged(3), 128);
    }

    private static void judgedOthers(Sentences s) {
        s.of(JUDGED, "NONE: others, ahead of any.");
        DuelRound d = bent();
        for (int what = -1; what <= 4; what++) {
            s.due("ahead of any judge(): judged(" + what + ")", d.judged(what), -1);
        }
        Check.judge(d, "k");
        for (int what = 0; what <= 3; what++) {
            s.due("ahead of any but with a FAULT: judged(" + what + ")", d.judged(what), -1);
        }
        Check.judge(d, "k a b;k c");
        int[] due = {1, 4, 2, 1};
        for (int what = 0; what <= 3; what++) {
            s.due("judged(" + what + ")", d.judged(what), due[what]);
        }
        for (int what : new int[] {-1, -2, 4, 5, Integer.MIN_VALUE, Integer.MAX_VALUE}) {
            s.due("judged(" + what + ")", d.judged(what), -1);
        }
    }

    private static void dueJudged(Sentences s, int what, Object... textsAndAnswers) {
        DuelRound d = bent();
        for (int i = 0; i + 1 < textsAndAnswers.length; i += 2) {
            String text = (String) textsAndAnswers[i];
            Check.judge(d, text);
            s.due("judged(" + what + ") of '" + text + "'", d.judged(what), (Integer) textsAndAnswers[i + 1]);
        }
    }
}
