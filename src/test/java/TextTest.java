import java.util.ArrayList;
import java.util.HashSet;
import java.util.List;
import java.util.Random;
import java.util.Set;
import java.util.regex.Matcher;
import java.util.regex.Pattern;

/**
 * Texts of ROUNDS and of PROOFS by chance, right ones and spoilt ones. Where a FAULT is, is told by a
 * pattern here: the first sign with which the text can't be the beginning of a right one any more.
 */
public final class TextTest {
    private static final String PAIR = " *[a-h] *> *[a-h]";
    private static final Pattern ROUND = Pattern.compile(PAIR + "( *;" + PAIR + ")* *");
    private static final String LINE = " *(u( *[a-h]){2,3}|[kcr]( *[a-h])+|s( *[0-9]){1,3}( *[a-h])+"
            + "|w( *[a-h]( *[0-9]){1,3})+)";
    private static final Pattern PROOFS = Pattern.compile(LINE + "( *;" + LINE + ")* *");

    private static final Check CHECK = new Check("TextTest");
    private static final Random RANDOM = new Random(11);

    public static void main(String[] args) {
        for (int i = 0; i < 30000; i++) {
            tellRound(spoil(blanked(rightRound(2 + RANDOM.nextInt(i % 7 == 0 ? 7 : 3)))));
        }
        for (int i = 0; i < 40000; i++) {
            tellProofs(1 + RANDOM.nextInt(5));
        }
        for (int i = 0; i < 300; i++) {
            tellProofs(8);
        }
        CHECK.end();
    }

    private static char letter(int x) {
        return (char) ('a' + x);
    }

    private static String rightRound(int n) {
        List<String> pairs = new ArrayList<>();
        for (int x = 0; x < n; x++) {
            for (int y = 0; y < x; y++) {
                boolean first = RANDOM.nextBoolean();
                pairs.add(letter(first ? x : y) + ">" + letter(first ? y : x));
            }
        }
        java.util.Collections.shuffle(pairs, RANDOM);
        return String.join(";", pairs);
    }

    private static String blanked(String text) {
        StringBuilder b = new StringBuilder();
        int each = RANDOM.nextInt(4);
        for (int i = 0; i <= text.length(); i++) {
            for (int k = 0; k < 2 && each > 0 && b.length() < 250 && RANDOM.nextInt(5) < each; k++) {
                b.append(' ');
            }
            if (i < text.length()) {
                b.append(text.charAt(i));
            }
        }
        return b.toString();
    }

    /** One sign is changed, left out, put in, or the end is cut off; often none. */
    private static String spoil(String text) {
        String signs = "abcdefghi >;;ukswcr0129" + (char) 0 + (char) 255 + "A`~\n";
        int at = RANDOM.nextInt(text.length() + 1);
        char sign = signs.charAt(RANDOM.nextInt(signs.length()));
        int next = Math.min(text.length(), at + 1);
        switch (RANDOM.nextInt(6)) {
            case 0:
                return text.substring(0, at) + sign + text.substring(next);
            case 1:
                return text.substring(0, at) + text.substring(next);
            case 2:
                return text.substring(0, at) + sign + text.substring(at);
            case 3:
                return text.substring(0, at);
            default:
                return text;
        }
    }

    /** The first sign with which no right text can begin as this one does; the length; -1 if all is well. */
    private static int faultBy(Pattern pattern, String text) {
        for (int end = 1; end <= text.length(); end++) {
            Matcher m = pattern.matcher(text.substring(0, end));
            if (!m.matches() && !m.hitEnd()) {
                return end - 1;
            }
        }
        return pattern.matcher(text).matches() ? -1 : text.length();
    }

    private static void tellRound(String text) {
        int fault = faultBy(ROUND, text);
        int upTo = fault < 0 ? text.length() : fault;
        Set<Integer> told = new HashSet<>();
        int n = 0;
        int first = -1;
        for (int i = 0; i < upTo && (fault < 0 || fault >= upTo); i++) {
            int x = text.charAt(i) - 'a';
            if (x < 0 || x > 7) {
                continue;
            }
            n = Math.max(n, x + 1);
            if (first < 0) {
                first = x;
                continue;
            }
            if (x == first || !told.add(Math.min(x, first) * 8 + Math.max(x, first))) {
                fault = i;
            }
            first = -1;
        }
        if (fault < 0 && told.size() < n * (n - 1) / 2) {
            fault = text.length();
        }
        DuelRound d = new DuelRound();
        d.drawn(5, 77);
        d.turn(0, 1);
        d.keep(1);
        int before = d.beaten(0, 31);
        int got = Check.round(d, text);
        CHECK.due("round() of '" + text + "'", got, fault < 0 ? n : -1000 - fault);
        CHECK.due("signs behind '" + text + "'", d.count(3), 0);
        CHECK.due("undone behind '" + text + "'", d.count(4), fault < 0 ? 0 : 1);
        CHECK.due("kept behind '" + text + "'", d.again(1), fault >= 0);
        if (fault >= 0) {
            CHECK.due("players behind '" + text + "'", d.count(0), 5);
            CHECK.due("beaten behind '" + text + "'", d.beaten(0, 31), before);
        } else {
            lookAtRound(d, text.replace(" ", ""));
        }
    }

    private static void lookAtRound(DuelRound d, String text) {
        for (String pair : text.split(";")) {
            CHECK.due(pair + " of " + text, d.duel(pair.charAt(0) - 'a', pair.charAt(2) - 'a', 0), 1);
        }
    }

    private static void tellProofs(int n) {
        DuelRound d = new DuelRound();
        d.drawn(n, RANDOM.nextInt(1000000));
        Oracle o = Oracle.of(d);
        List<String> lines = new ArrayList<>();
        int count = 1 + RANDOM.nextInt(6);
        for (int i = 0; i < count; i++) {
            boolean again = i > 0 && RANDOM.nextInt(8) == 0;
            lines.add(again ? lines.get(RANDOM.nextInt(i)) : line(d, o));
        }
        int latest = Check.judge(d, "k " + letter(RANDOM.nextInt(n)));
        int latestWhy = d.judged(1);
        String text = spoil(blanked(String.join(";", lines)));
        if (text.length() > 300) {
            return;
        }
        String what = "n " + n + " judge() of '" + text + "'";
        int got = Check.judge(d, text);
        int fault = faultBy(PROOFS, text);
        CHECK.due(what + " signs", d.count(3), 0);
        if (fault >= 0) {
            CHECK.due(what, got, -1000 - fault);
            CHECK.due(what + " lines of the latest", d.judged(2), 1);
            CHECK.due(what + " wrong of the latest", d.judged(0), latest == 1 ? -1 : 0);
            CHECK.due(what + " why of the latest", d.judged(1), latestWhy);
            return;
        }
        lookAtProofs(d, o, text.replace(" ", "").split(";"), got, what);
    }

    private static void lookAtProofs(DuelRound d, Oracle o, String[] lines, int got, String what) {
        List<String> said = new ArrayList<>();
        int firsts = 0;
        int wrong = -1;
        int why = 0;
        for (int i = 0; i < lines.length && wrong < 0; i++) {
            why = why(o, lines[i]);
            String plain = lines[i].replaceAll("(?<![0-9])0+(?=[0-9])", "");
            if (why == 0 && said.contains(plain)) {
                why = 6;
            }
            said.add(plain);
            if (why != 0) {
                wrong = i;
            } else if (lines[i].charAt(0) == 'k' || lines[i].charAt(0) == 's') {
                firsts |= 1 << lines[i].replaceAll("[0-9]", "").charAt(1) - 'a';
            }
        }
        CHECK.due(what, got, wrong < 0 ? lines.length : wrong);
        CHECK.due(what + " judged(0)", d.judged(0), wrong);
        CHECK.due(what + " judged(1)", d.judged(1), why);
        CHECK.due(what + " judged(2)", d.judged(2), lines.length);
        CHECK.due(what + " judged(3)", d.judged(3), firsts);
    }

    /** Why a LINE is WRONG, but for 6. */
    private static int why(Oracle o, String line) {
        String letters = line.substring(1).replaceAll("[^a-h]", "");
        List<Integer> row = new ArrayList<>();
        int set = 0;
        for (char c : letters.toCharArray()) {
            row.add(c - 'a');
            set |= 1 << c - 'a';
        }
        if (set > o.all()) {
            return 1;
        }
        if (Integer.bitCount(set) < row.size()) {
            return 2;
        }
        switch (line.charAt(0)) {
            case 'u':
                return o.beats[row.get(0)][row.get(row.size() - 1)]
                        && (row.size() == 2 || o.beats[row.get(2)][row.get(1)]) ? 0 : 3;
            case 'k':
                if (o.turnedOf(row) > 0) {
                    return 3;
                }
                for (int z = 0; z < o.n; z++) {
                    if (o.beaten(z, set) == set) {
                        return 4;
                    }
                }
                return 0;
            case 's':
                int told = Integer.parseInt(line.replaceAll("[^0-9]", ""));
                return row.size() < o.n ? 4
                        : o.turnedOf(row) == told && o.turnedOf(o.bestOrders(o.all()).get(0)) == told ? 0 : 5;
            case 'w':
                return whyNoWeights(o, line.substring(1));
            case 'c':
                return o.isCovering(set, o.all()) ? 0 : 5;
            default:
                return o.isKeeping(set, o.all()) ? 0 : 5;
        }
    }

    private static int whyNoWeights(Oracle o, String told) {
        int[] weights = new int[8];
        int sum = 0;
        Matcher m = Pattern.compile("([a-h])([0-9]+)").matcher(told);
        while (m.find()) {
            weights[m.group(1).charAt(0) - 'a'] = Integer.parseInt(m.group(2));
            sum += Integer.parseInt(m.group(2));
        }
        for (int x = 0; x < o.n; x++) {
            int gain = 0;
            for (int y = 0; y < o.n; y++) {
                gain += o.beats[x][y] ? weights[y] : o.beats[y][x] ? -weights[y] : 0;
            }
            if (sum > 0 && gain > 0) {
                return 5;
            }
        }
        return sum == 0 ? 4 : 0;
    }

    /** Of any form; more often than not a right one. */
    private static String line(DuelRound d, Oracle o) {
        boolean right = RANDOM.nextInt(6) != 0;
        int x = RANDOM.nextInt(o.n);
        switch (RANDOM.nextInt(6)) {
            case 0:
                return "u" + letters(o, 2 + RANDOM.nextInt(2));
            case 1:
                StringBuilder chain = new StringBuilder("k");
                int length = d.chain(x, o.all(), -1);
                for (int i = 0; right && i < length; i++) {
                    chain.append(letter(d.chain(x, o.all(), i)));
                }
                return chain.length() > 1 ? chain.toString() : "k" + letters(o, 1 + RANDOM.nextInt(3));
            case 2:
                int turned = d.best(0) + (RANDOM.nextInt(6) == 0 ? 1 : 0);
                StringBuilder order = new StringBuilder("s").append(RANDOM.nextInt(3) == 0 ? "0" : "").append(turned);
                for (int i = 0; right && i < o.n; i++) {
                    order.append(letter(d.best(10 + i)));
                }
                return right ? order.toString() : order + letters(o, o.n);
            case 3:
                StringBuilder weights = new StringBuilder("w");
                int factor = 1 + RANDOM.nextInt(3);
                for (int i = 0; i < o.n; i++) {
                    int w = d.weight(i, 0) * (RANDOM.nextInt(9) == 0 ? 0 : factor);
                    if (w > 0 || RANDOM.nextBoolean() || weights.length() == 1 && i == o.n - 1) {
                        weights.append(letter(i)).append(RANDOM.nextInt(5) == 0 ? "0" : "").append(w);
                    }
                }
                return weights.toString();
            case 4:
                return "c" + letters(right && RANDOM.nextBoolean() ? d.set(6, o.all()) : 1 + RANDOM.nextInt(o.all()));
            default:
                return "r" + letters(right && RANDOM.nextBoolean() ? d.set(8, o.all()) : 1 + RANDOM.nextInt(o.all()));
        }
    }

    private static String letters(Oracle o, int count) {
        List<Integer> players = new ArrayList<>();
        for (int x = 0; x < o.n; x++) {
            players.add(x);
        }
        java.util.Collections.shuffle(players, RANDOM);
        StringBuilder b = new StringBuilder();
        for (int i = 0; i < count; i++) {
            b.append(letter(i < o.n && RANDOM.nextInt(25) != 0 ? players.get(i) : RANDOM.nextInt(8)));
        }
        return b.toString();
    }

    private static String letters(int set) {
        StringBuilder b = new StringBuilder();
        for (int x = 0; x < 8; x++) {
            if ((set >> x & 1) == 1) {
                b.insert(RANDOM.nextInt(b.length() + 1), letter(x));
            }
        }
        return b.toString();
    }
}
