import java.util.NoSuchElementException;

/**
 * Who is best in a round of duels: the ROUND, its SETS, cups, proofs, and what has been kept of it.
 *
 * <p>Sets of PLAYERS are bits everywhere. Every row that a call needs is made here once and used
 * again, so that no call makes an object.
 */
public final class DuelRound {
    /** What a call answers, where there is none. */
    public static final int NONE = -1;
    /** What a call answers, where there is none, and a number below 0 might be. */
    public static final int NOTHING = Integer.MIN_VALUE;

    private static final int CANNOT_BE = -1;
    private static final int NO_SUCH = -2;
    private static final int NOT_AS_IT_STANDS = -3;
    private static final int FAULT_AT_START = -1000;

    private static final int MOST_PLAYERS = 8;
    private static final int ALL_SETS = 1 << MOST_PLAYERS;
    private static final int MOST_SIGNS = 300;
    private static final int MOST_UNDONE = 10;
    private static final int PLACES_TO_KEEP = 2;

    private static final int KINDS = 10;
    private static final int PRAISING_KINDS = 9;
    private static final int TOP = 0;
    private static final int MOST = 1;
    private static final int UNCOVERED = 2;
    private static final int UNCOVERED_AGAIN = 3;
    private static final int BANKS = 4;
    private static final int SLATER = 5;
    private static final int LEAST_COVERING = 6;
    private static final int BALANCED = 7;
    private static final int KEEPING = 8;
    private static final int CUP = 9;

    private static final int MOST_SEED = 999999;
    private static final int DRAW_TIMES = 1103;
    private static final int DRAW_PLUS = 12345;
    private static final int DRAW_MODULO = 1000003;

    private static final int FEWEST_LIMIT = 2;
    private static final int ORDER_BASE = 10;

    private final Signs text = new Signs();
    private final Duels now = new Duels();
    private final Duels spare = new Duels();
    private final Past past = new Past();
    private final Orders orders = new Orders(now);
    private final Weights weights = new Weights(now);
    private final Cups cups = new Cups(now);
    private final Sets sets = new Sets(now, orders, weights, cups);
    private final Proofs proofs = new Proofs(now, text, sets, orders, weights);
    private final Names names = new Names();
    private final int[] setsOfAll = new int[PRAISING_KINDS];

    /** No ROUND. */
    public DuelRound() {
    }

    /** Four signs come behind THE TEXT, of v the highest byte first: how many it has. */
    public int sign(int v) {
        return text.addFour(v);
    }

    /** THE TEXT has its first n signs alone. */
    public boolean end(int n) {
        return text.cutTo(n);
    }

    /** THE TEXT becomes the ROUND: how many PLAYERS. */
    public int round() {
        int fault = faultOfRound();
        text.cutTo(0);
        if (fault != NONE) {
            return FAULT_AT_START - fault;
        }
        return startWithSpare();
    }

    /** A ROUND of n PLAYERS is drawn: n. */
    public int drawn(int n, int seed) {
        if (n < 1 || n > MOST_PLAYERS || seed < 0 || seed > MOST_SEED) {
            return CANNOT_BE;
        }
        spare.clear();
        spare.players = n;
        int s = seed;
        for (int x = 0; x < n; x++) {
            for (int y = x + 1; y < n; y++) {
                s = (DRAW_TIMES * s + DRAW_PLUS) % DRAW_MODULO;
                if (s % 2 == 0) {
                    spare.letBeat(x, y);
                } else {
                    spare.letBeat(y, x);
                }
            }
        }
        return startWithSpare();
    }

    // ---- the round

    /** Whether x beats y, whether x COVERS y, the least z between them. */
    public int duel(int x, int y, int what) throws NoSuchElementException {
        if (!now.isPlayer(x) || !now.isPlayer(y) || x == y) {
            throw new NoSuchElementException("no such PLAYERS, or one twice");
        }
        switch (what) {
            case 0:
                return now.isBeating(x, y) ? 1 : 0;
            case 1:
                return sets.isCovering(x, y, now.everybody()) ? 1 : 0;
            case 2:
                return lowestOf(now.beats[x] & now.beatersOf(y, now.everybody()));
            default:
                return NONE;
        }
    }

    /** Whom x beats of SOME. */
    public int beaten(int x, int some) {
        if (!now.isPlayer(x) || !now.arePlayers(some)) {
            return NONE;
        }
        return now.beats[x] & some;
    }

    /** The ARROW of two is turned: who beats the other one then. */
    public int turn(int x, int y) {
        if (x == y) {
            return CANNOT_BE;
        }
        if (!now.isPlayer(x) || !now.isPlayer(y)) {
            return NO_SUCH;
        }
        past.remember(now.packed());
        now.flip(x, y);
        return now.winnerOf(x, y);
    }

    /** One more PLAYER comes, who beats these: how many there are. */
    public int join(int beats) {
        if (!now.arePlayers(beats)) {
            return CANNOT_BE;
        }
        if (now.players == 0) {
            return NO_SUCH;
        }
        if (now.players >= MOST_PLAYERS) {
            return NOT_AS_IT_STANDS;
        }
        past.remember(now.packed());
        now.addPlayer(beats);
        return now.players;
    }

    /** A PLAYER goes: how many are left. */
    public int drop(int x) {
        if (!now.isPlayer(x)) {
            return NO_SUCH;
        }
        if (now.players == 1) {
            return NOT_AS_IT_STANDS;
        }
        past.remember(now.packed());
        now.removePlayer(x);
        return now.players;
    }

    // ---- sets

    /** SET of a kind of SOME. */
    public int set(int kind, int some) {
        if (now.players == 0 || !isKind(kind) || !now.arePlayers(some)) {
            return NONE;
        }
        return sets.ofKind(kind, some);
    }

    /** How many kinds have x in their SET of all, or whether one kind has. */
    public int praised(int x, int what) {
        if (!now.isPlayer(x) || what < NONE || what >= PRAISING_KINDS) {
            return NONE;
        }
        if (what != NONE) {
            return bitOf(sets.ofKind(what, now.everybody()), x);
        }
        int kinds = 0;
        for (int kind = 0; kind < PRAISING_KINDS; kind++) {
            kinds += bitOf(sets.ofKind(kind, now.everybody()), x);
        }
        return kinds;
    }

    /** Pairs of kinds with one SET within the other one: how many, the first where it is less. */
    public int within(int what) {
        if (now.players == 0 || what < 0 || what > 1) {
            return NONE;
        }
        for (int kind = 0; kind < PRAISING_KINDS; kind++) {
            setsOfAll[kind] = sets.ofKind(kind, now.everybody());
        }
        return what == 0 ? countWithin() : firstLessWithin();
    }

    /** The least CHAIN of SOME that x is first of: its length, the i-th. */
    public int chain(int x, int some, int i) {
        if (!now.isPlayer(x) || !now.arePlayers(some) || bitOf(some, x) == 0 || i < NONE) {
            return NONE;
        }
        int length = sets.leastChain(x, some);
        if (length == 0) {
            return NOT_AS_IT_STANDS;
        }
        if (i == NONE) {
            return length;
        }
        return i < length ? sets.row[i] : NONE;
    }

    /** BEST ORDERS of all: their TURNED ARROWS, how many there are, the i-th of the least one. */
    public int best(int what) {
        if (now.players == 0) {
            return NONE;
        }
        if (what == 0) {
            return orders.fewestTurned(now.everybody());
        }
        if (what == 1) {
            return orders.howMany(now.everybody());
        }
        if (what < ORDER_BASE || what >= ORDER_BASE + now.players) {
            return NONE;
        }
        return orders.placeInLeast(what - ORDER_BASE, now.everybody());
    }

    /** TURNED ARROWS by wins, how many more than BEST ones that is. */
    public int byWins(int what) {
        if (now.players == 0 || what < 0 || what > 1) {
            return NONE;
        }
        int turned = orders.turnedByWins();
        return what == 0 ? turned : turned - orders.fewestTurned(now.everybody());
    }

    /** By WEIGHTS of all, that of x, or what x would gain. */
    public int weight(int x, int what) {
        if (!now.isPlayer(x) || what < 0 || what > 1) {
            return NOTHING;
        }
        weights.balance(now.everybody());
        return what == 0 ? weights.shares[x] : weights.gainOf(x, weights.shares);
    }

    /** KEEPING of all who beat x, of SOME. */
    public int keeps(int x, int some) {
        if (!now.isPlayer(x) || !now.arePlayers(some)) {
            return NONE;
        }
        return sets.ofKind(KEEPING, now.beatersOf(x, some));
    }

    /** Whether a set is COVERING, KEEPING, of all. */
    public int is(int set, int what) {
        if (now.players == 0 || !now.arePlayers(set) || what < 0 || what > 1) {
            return NONE;
        }
        boolean so = what == 0
                ? sets.isCoveringSet(set, now.everybody())
                : sets.isKeepingSet(set, now.everybody());
        return so ? 1 : 0;
    }

    // ---- cups

    /** By how many ROWS of all x wins, the i-th PLAYER of the least of these. */
    public int cup(int x, int i) {
        if (!now.isPlayer(x) || i < NONE || i >= now.players) {
            return NONE;
        }
        if (!cups.fits(now.players)) {
            return NOT_AS_IT_STANDS;
        }
        if (i == NONE) {
            return cups.rowsWonBy(x);
        }
        int row = cups.leastRowWonBy(x);
        if (row == NONE) {
            return NOT_AS_IT_STANDS;
        }
        return cups.placeIn(row, i, now.players);
    }

    /** Who wins by the ROW with the PLAYERS as they stand, those of a set first. */
    public int winner(int set) {
        if (now.players == 0 || !now.arePlayers(set)) {
            return NONE;
        }
        if (!cups.fits(now.players)) {
            return NOT_AS_IT_STANDS;
        }
        return cups.playWithFirst(set);
    }

    // ---- proofs

    /** PROOFS of THE TEXT are judged: how many LINES there are ahead of the first that is WRONG. */
    public int judge() {
        if (now.players == 0) {
            text.cutTo(0);
            return NO_SUCH;
        }
        int fault = proofs.readLines();
        text.cutTo(0);
        if (fault != NONE) {
            return FAULT_AT_START - fault;
        }
        return proofs.judgeLines();
    }

    /** Of the latest judge(). */
    public int judged(int what) {
        if (!proofs.isJudged) {
            return NONE;
        }
        switch (what) {
            case 0:
                return proofs.firstWrong;
            case 1:
                return proofs.reason;
            case 2:
                return proofs.linesJudged;
            case 3:
                return proofs.provedFirst;
            default:
                return NONE;
        }
    }

    // ---- what if

    /** The fewest ARROWS that must be turned, so that x is in SET kind of all. */
    public int fewest(int x, int kind) {
        if (!now.isPlayer(x) || !isKind(kind)) {
            return NONE;
        }
        for (int turns = 0; turns <= FEWEST_LIMIT; turns++) {
            if (getsInto(x, kind, turns, 0)) {
                return turns;
            }
        }
        return NO_SUCH;
    }

    /** How many ways there are to give the PLAYERS other names, so that all ARROWS are as they were. */
    public int selves() {
        if (now.players == 0) {
            return NONE;
        }
        return names.waysToRename(now, now);
    }

    // ---- back

    /** The latest act is undone: how many can be yet. */
    public int undo() {
        if (now.players == 0) {
            return NO_SUCH;
        }
        if (past.size == 0) {
            return NOT_AS_IT_STANDS;
        }
        now.unpack(past.takeLatest());
        return past.size;
    }

    /** The ROUND is kept under k. */
    public boolean keep(int k) {
        if (now.players == 0 || k < 0 || k >= PLACES_TO_KEEP) {
            return false;
        }
        past.kept[k] = now.packed();
        return true;
    }

    /** It is as it was kept. */
    public boolean again(int k) {
        if (!past.isKept(k)) {
            return false;
        }
        past.remember(now.packed());
        now.unpack(past.kept[k]);
        return true;
    }

    /** Whether the ROUND is the one kept but for names, in how many ARROWS they differ. */
    public int alike(int k, int what) {
        if (!past.isKept(k) || what < 0 || what > 1) {
            return NONE;
        }
        spare.unpack(past.kept[k]);
        if (what == 0) {
            return names.waysToRename(now, spare) > 0 ? 1 : 0;
        }
        return now.arrowsUnlike(spare);
    }

    /** Counts of what there is. */
    public int count(int what) {
        switch (what) {
            case 0:
                return now.players;
            case 1:
                return now.arrows();
            case 2:
                return now.cyclesOfThree();
            case 3:
                return text.length;
            case 4:
                return past.size;
            case 5:
                return now.unbeatenOf(now.everybody());
            default:
                return NONE;
        }
    }

    private static boolean isKind(int kind) {
        return kind >= 0 && kind < KINDS;
    }

    private static int bitOf(int bits, int x) {
        return bits >> x & 1;
    }

    private static int lowestOf(int bits) {
        for (int x = 0; x < MOST_PLAYERS; x++) {
            if (bitOf(bits, x) == 1) {
                return x;
            }
        }
        return NONE;
    }

    /** A ROUND that does not come by an act ends all that was kept of the one ahead. */
    private int startWithSpare() {
        now.unpack(spare.packed());
        past.forgetAll();
        return now.players;
    }

    /** Reads THE TEXT into the spare ROUND, so that a FAULT leaves the ROUND alone: where it is, NONE. */
    private int faultOfRound() {
        spare.clear();
        text.at = 0;
        for (int pairs = 0; pairs <= MOST_SIGNS; pairs++) {
            if (!readPair()) {
                return text.at;
            }
            if (text.next() != ';') {
                break;
            }
            text.at++;
        }
        if (text.next() != NONE) {
            return text.at;
        }
        return spare.arrowsTold() == spare.arrows() ? NONE : text.length;
    }

    /** Whether a PAIR stands there; if not, the text is left at the sign that makes the FAULT. */
    private boolean readPair() {
        int x = text.nextLetter();
        if (x == NONE) {
            return false;
        }
        text.at++;
        if (text.next() != '>') {
            return false;
        }
        text.at++;
        int y = text.nextLetter();
        if (y == NONE || y == x || spare.isTold(x, y)) {
            return false;
        }
        text.at++;
        spare.letBeat(x, y);
        spare.players = Math.max(spare.players, Math.max(x, y) + 1);
        return true;
    }

    private int countWithin() {
        int pairs = 0;
        for (int i = 0; i < PRAISING_KINDS; i++) {
            for (int k = 0; k < PRAISING_KINDS; k++) {
                if (i != k && (setsOfAll[i] & ~setsOfAll[k]) == 0) {
                    pairs++;
                }
            }
        }
        return pairs;
    }

    private int firstLessWithin() {
        for (int i = 0; i < PRAISING_KINDS; i++) {
            for (int k = 0; k < PRAISING_KINDS; k++) {
                if (setsOfAll[i] != setsOfAll[k] && (setsOfAll[i] & ~setsOfAll[k]) == 0) {
                    return 10 * i + k;
                }
            }
        }
        return NONE;
    }

    /**
     * Whether x gets into the SET by turning just so many ARROWS, from a pair on (8 x and y). Each
     * ARROW is turned back, so the ROUND is as it was behind the call.
     */
    private boolean getsInto(int x, int kind, int turns, int fromPair) {
        if (isTooFar(x, kind, turns)) {
            return false;
        }
        if (turns <= 0) {
            return bitOf(sets.ofKind(kind, now.everybody()), x) == 1;
        }
        for (int pair = fromPair; pair < MOST_PLAYERS * MOST_PLAYERS; pair++) {
            int a = pair / MOST_PLAYERS;
            int b = pair % MOST_PLAYERS;
            if (a >= b || b >= now.players) {
                continue;
            }
            now.flip(a, b);
            boolean found = getsInto(x, kind, turns - 1, pair + 1);
            now.flip(a, b);
            if (found) {
                return true;
            }
        }
        return false;
    }

    /** Whether it is soon seen that so many turned ARROWS can't bring x into the SET: for speed alone. */
    private boolean isTooFar(int x, int kind, int turns) {
        if (kind == TOP) {
            return false;
        }
        if (kind == CUP) {
            // Who wins a cup of 2, 4, 8 beats 1, 2, 3 others on the way.
            return 1 << Integer.bitCount(now.beats[x]) + turns < now.players;
        }
        // The SETS of all other kinds lie within UNCOVERED.
        if (turns == 0 && sets.isCovered(x, now.everybody())) {
            return true;
        }
        // A turned ARROW is one more in some ORDERS and one less in the others.
        return kind == SLATER && orders.behindBest(x, now.everybody()) > 2 * turns;
    }

    /** THE TEXT, and the place up to which it has been read. */
    private static final class Signs {
        final char[] signs = new char[MOST_SIGNS];
        int length;
        int at;

        int addFour(int v) {
            if (length + 4 > MOST_SIGNS) {
                return NONE;
            }
            for (int shift = 24; shift >= 0; shift -= 8) {
                signs[length] = (char) (v >> shift & 255);
                length++;
            }
            return length;
        }

        boolean cutTo(int n) {
            if (n < 0 || n > length) {
                return false;
            }
            length = n;
            return true;
        }

        /** The sign that comes behind the blanks (NONE at the end); the place moves up to it. */
        int next() {
            while (at < length && signs[at] == ' ') {
                at++;
            }
            return at < length ? signs[at] : NONE;
        }

        int nextLetter() {
            int sign = next();
            return sign >= 'a' && sign < 'a' + MOST_PLAYERS ? sign - 'a' : NONE;
        }

        int nextDigit() {
            int sign = next();
            return sign >= '0' && sign <= '9' ? sign - '0' : NONE;
        }
    }

    /** Who beats whom; no PLAYERS: no ROUND. */
    private static final class Duels {
        final int[] beats = new int[MOST_PLAYERS];
        int players;

        void clear() {
            players = 0;
            for (int x = 0; x < MOST_PLAYERS; x++) {
                beats[x] = 0;
            }
        }

        boolean isPlayer(int x) {
            return x >= 0 && x < players;
        }

        int everybody() {
            return (1 << players) - 1;
        }

        boolean arePlayers(int some) {
            return (some & ~everybody()) == 0;
        }

        boolean isBeating(int x, int y) {
            return (beats[x] >> y & 1) == 1;
        }

        boolean isTold(int x, int y) {
            return isBeating(x, y) || isBeating(y, x);
        }

        int winnerOf(int x, int y) {
            return (beats[x] >> y & 1) == 1 ? x : y;
        }

        int beatersOf(int x, int some) {
            return some & ~beats[x] & ~(1 << x);
        }

        /** Those of SOME who beat all others of them: one at most. */
        int unbeatenOf(int some) {
            for (int x = 0; x < players; x++) {
                if (bitOf(some, x) == 1 && beatersOf(x, some) == 0) {
                    return 1 << x;
                }
            }
            return 0;
        }

        int arrows() {
            return players * (players - 1) / 2;
        }

        int arrowsTold() {
            int told = 0;
            for (int x = 0; x < MOST_PLAYERS; x++) {
                told += Integer.bitCount(beats[x]);
            }
            return told;
        }

        int cyclesOfThree() {
            int cycles = 0;
            for (int x = 0; x < players; x++) {
                for (int y = x + 1; y < players; y++) {
                    int closing = isBeating(x, y)
                            ? beats[y] & beatersOf(x, everybody())
                            : beats[x] & beatersOf(y, everybody());
                    cycles += Integer.bitCount(closing);
                }
            }
            // Each cycle was met at each of its three ARROWS.
            return cycles / 3;
        }

        void letBeat(int x, int y) {
            beats[x] |= 1 << y;
            beats[y] &= ~(1 << x);
        }

        void flip(int x, int y) {
            beats[x] ^= 1 << y;
            beats[y] ^= 1 << x;
        }

        void addPlayer(int beaten) {
            int last = players;
            for (int x = 0; x < last; x++) {
                if (bitOf(beaten, x) == 0) {
                    beats[x] |= 1 << last;
                }
            }
            beats[last] = beaten;
            players++;
        }

        void removePlayer(int gone) {
            for (int x = gone; x < players - 1; x++) {
                beats[x] = beats[x + 1];
            }
            players--;
            beats[players] = 0;
            int below = (1 << gone) - 1;
            for (int x = 0; x < players; x++) {
                beats[x] = beats[x] & below | beats[x] >> 1 & ~below;
            }
        }

        /** The whole ROUND as one number, never 0: a bit for each two, and how many PLAYERS. */
        long packed() {
            long bits = 0;
            for (int x = 0; x < players; x++) {
                for (int y = x + 1; y < players; y++) {
                    bits = bits << 1 | bitOf(beats[x], y);
                }
            }
            return bits << 4 | players;
        }

        void unpack(long packed) {
            clear();
            int count = (int) (packed & 15);
            long bits = packed >> 4;
            for (int x = count - 1; x >= 0; x--) {
                for (int y = count - 1; y > x; y--) {
                    if ((bits & 1) == 1) {
                        letBeat(x, y);
                    } else {
                        letBeat(y, x);
                    }
                    bits >>= 1;
                }
            }
            players = count;
        }

        int arrowsUnlike(Duels other) {
            int both = (1 << Math.min(players, other.players)) - 1;
            int unlike = 0;
            for (int x = 0; x < MOST_PLAYERS; x++) {
                if (bitOf(both, x) == 1) {
                    unlike += Integer.bitCount((beats[x] ^ other.beats[x]) & both);
                }
            }
            // Each ARROW stands in the rows of two.
            return unlike / 2;
        }
    }

    /** The ROUNDS of the latest acts, and those that are kept. */
    private static final class Past {
        final long[] rounds = new long[MOST_UNDONE];
        final long[] kept = new long[PLACES_TO_KEEP];
        int size;

        void remember(long round) {
            if (size == MOST_UNDONE) {
                System.arraycopy(rounds, 1, rounds, 0, MOST_UNDONE - 1);
                size--;
            }
            rounds[size] = round;
            size++;
        }

        /** Asked only where there is one. */
        long takeLatest() {
            size--;
            return rounds[size];
        }

        boolean isKept(int k) {
            return k >= 0 && k < PLACES_TO_KEEP && kept[k] != 0;
        }

        void forgetAll() {
            size = 0;
            for (int k = 0; k < PLACES_TO_KEEP; k++) {
                kept[k] = 0;
            }
        }
    }

    /** The SETS by kinds. */
    private static final class Sets {
        final Duels duels;
        final Orders orders;
        final Weights weights;
        final Cups cups;
        /** The CHAIN that leastChain() found. */
        final int[] row = new int[MOST_PLAYERS];
        /** For each depth of keeping() whom a set must have, too, if it has x. */
        final int[] needs = new int[MOST_PLAYERS * MOST_PLAYERS];

        Sets(Duels duels, Orders orders, Weights weights, Cups cups) {
            this.duels = duels;
            this.orders = orders;
            this.weights = weights;
            this.cups = cups;
        }

        int ofKind(int kind, int some) {
            if (some == 0) {
                return 0;
            }
            switch (kind) {
                case TOP:
                    return top(some);
                case MOST:
                    return most(some);
                case UNCOVERED:
                    return uncovered(some);
                case UNCOVERED_AGAIN:
                    return uncoveredAgain(some);
                case BANKS:
                    return banks(some);
                case SLATER:
                    return orders.firsts(some);
                case LEAST_COVERING:
                    return leastCovering(some);
                case BALANCED:
                    return weights.balance(some);
                case KEEPING:
                    return keeping(some, 0);
                case CUP:
                    return cups.winners(some);
                default:
                    return 0;
            }
        }

        int top(int some) {
            for (int x = 0; x < duels.players; x++) {
                if (bitOf(some, x) == 1) {
                    needs[x] = duels.beatersOf(x, some);
                }
            }
            closeNeeds(0, some);
            return leastClosed(0, some);
        }

        int most(int some) {
            int wins = -1;
            int those = 0;
            for (int x = 0; x < duels.players; x++) {
                if (bitOf(some, x) == 0) {
                    continue;
                }
                int mine = Integer.bitCount(duels.beats[x] & some);
                if (mine > wins) {
                    wins = mine;
                    those = 0;
                }
                if (mine == wins) {
                    those |= 1 << x;
                }
            }
            return those;
        }

        boolean isCovering(int x, int y, int some) {
            int mustBeat = duels.beats[y] & some | 1 << y;
            return (mustBeat & ~duels.beats[x]) == 0;
        }

        /** Whether one of SOME COVERS x in SOME and x together. */
        boolean isCovered(int x, int some) {
            for (int y = 0; y < duels.players; y++) {
                if (bitOf(some, y) == 1 && isCovering(y, x, some)) {
                    return true;
                }
            }
            return false;
        }

        int uncovered(int some) {
            int those = 0;
            for (int x = 0; x < duels.players; x++) {
                if (bitOf(some, x) == 1 && !isCovered(x, some)) {
                    those |= 1 << x;
                }
            }
            return those;
        }

        int uncoveredAgain(int some) {
            int those = some;
            for (int times = 0; times < MOST_PLAYERS; times++) {
                those = uncovered(those);
            }
            return those;
        }

        int banks(int some) {
            int those = 0;
            for (int x = 0; x < duels.players; x++) {
                if (bitOf(some, x) == 1 && leastChain(x, some) > 0) {
                    those |= 1 << x;
                }
            }
            return those;
        }

        /** Puts the least CHAIN of SOME that x is first of into the row: its length, 0 without one. */
        int leastChain(int x, int some) {
            row[0] = x;
            return chainFrom(1, duels.beats[x] & some, duels.beatersOf(x, some));
        }

        /**
         * The length of the least CHAIN that goes on from the row as it is, 0 without one: behind
         * are those whom all of the row beat, above are those who beat all of it.
         */
        int chainFrom(int length, int behind, int above) {
            if (above == 0) {
                return length;
            }
            if (length >= MOST_PLAYERS) {
                return 0;
            }
            for (int z = 0; z < duels.players; z++) {
                if (bitOf(behind, z) == 1) {
                    row[length] = z;
                    int found = chainFrom(length + 1, behind & duels.beats[z],
                            duels.beatersOf(z, above));
                    if (found > 0) {
                        return found;
                    }
                }
            }
            return 0;
        }

        boolean isCoveringSet(int set, int some) {
            if (set == 0) {
                return false;
            }
            for (int x = 0; x < duels.players; x++) {
                if (bitOf(some & ~set, x) == 1 && !isCovered(x, set)) {
                    return false;
                }
            }
            return true;
        }

        int leastCovering(int some) {
            int least = some;
            int size = Integer.bitCount(some);
            for (int set = 1; set < some; set++) {
                if ((set & ~some) == 0 && Integer.bitCount(set) < size && isCoveringSet(set, some)) {
                    least = set;
                    size = Integer.bitCount(set);
                }
            }
            return least;
        }

        /** Those who beat x get fewer with each depth, so there are MOST_PLAYERS depths at most. */
        int keeping(int some, int depth) {
            if (some == 0 || depth >= MOST_PLAYERS) {
                return 0;
            }
            // Whom nobody beats is KEEPING alone, and KEEPING of all who beat another one.
            int unbeaten = duels.unbeatenOf(some);
            if (unbeaten != 0) {
                return unbeaten;
            }
            int base = depth * MOST_PLAYERS;
            for (int x = 0; x < duels.players; x++) {
                if (bitOf(some, x) == 1) {
                    needs[base + x] = keeping(duels.beatersOf(x, some), depth + 1);
                }
            }
            closeNeeds(base, some);
            return leastClosed(base, some);
        }

        boolean isKeepingSet(int set, int some) {
            for (int x = 0; x < duels.players; x++) {
                if (bitOf(set, x) == 1 && (keeping(duels.beatersOf(x, some), 0) & ~set) != 0) {
                    return false;
                }
            }
            return set != 0;
        }

        /** Puts to the needs of each of SOME those of all whom it needs, too. */
        void closeNeeds(int base, int some) {
            for (int via = 0; via < duels.players; via++) {
                for (int x = 0; x < duels.players; x++) {
                    if (bitOf(some, x) == 1 && bitOf(needs[base + x], via) == 1) {
                        needs[base + x] |= needs[base + via];
                    }
                }
            }
        }

        /** All least sets together that have all whom theirs need: those needed by all they need. */
        int leastClosed(int base, int some) {
            int together = some;
            for (int x = 0; x < duels.players; x++) {
                for (int y = 0; y < duels.players; y++) {
                    if (bitOf(some, x) == 1 && bitOf(needs[base + x], y) == 1
                            && bitOf(needs[base + y], x) == 0) {
                        together &= ~(1 << x);
                    }
                }
            }
            return together;
        }
    }

    /** ORDERS, by the fewest TURNED ARROWS of each set of PLAYERS. */
    private static final class Orders {
        private static final int MORE_THAN_ALL = MOST_PLAYERS * MOST_PLAYERS;

        final Duels duels;
        final int[] turned = new int[ALL_SETS];
        final int[] ways = new int[ALL_SETS];

        Orders(Duels duels) {
            this.duels = duels;
        }

        /** From the empty set up, for each set within SOME. */
        void measure(int some) {
            turned[0] = 0;
            ways[0] = 1;
            for (int set = 1; set <= some; set++) {
                if ((set & ~some) != 0) {
                    continue;
                }
                turned[set] = MORE_THAN_ALL;
                ways[set] = 0;
                for (int x = 0; x < duels.players; x++) {
                    if (bitOf(set, x) == 0) {
                        continue;
                    }
                    int mine = turnedWithFirst(x, set);
                    if (mine < turned[set]) {
                        turned[set] = mine;
                        ways[set] = 0;
                    }
                    if (mine == turned[set]) {
                        ways[set] += ways[set & ~(1 << x)];
                    }
                }
            }
        }

        /** TURNED ARROWS of the BEST ORDERS of a set among those that x is first of. */
        int turnedWithFirst(int x, int set) {
            int others = set & ~(1 << x);
            return turned[others] + Integer.bitCount(others & ~duels.beats[x]);
        }

        int fewestTurned(int some) {
            measure(some);
            return turned[some];
        }

        int howMany(int some) {
            measure(some);
            return ways[some];
        }

        int firsts(int some) {
            measure(some);
            int those = 0;
            for (int x = 0; x < duels.players; x++) {
                if (isFirstOfBest(x, some)) {
                    those |= 1 << x;
                }
            }
            return those;
        }

        boolean isFirstOfBest(int x, int set) {
            return bitOf(set, x) == 1 && turnedWithFirst(x, set) == turned[set];
        }

        /** How many more TURNED ARROWS than BEST ones the ORDERS have that x is first of. */
        int behindBest(int x, int some) {
            measure(some);
            return turnedWithFirst(x, some) - turned[some];
        }

        int placeInLeast(int place, int some) {
            measure(some);
            int left = some;
            int latest = NONE;
            for (int i = 0; i <= place; i++) {
                latest = leastFirst(left);
                if (latest == NONE) {
                    return NONE;
                }
                left &= ~(1 << latest);
            }
            return latest;
        }

        int leastFirst(int set) {
            for (int x = 0; x < duels.players; x++) {
                if (isFirstOfBest(x, set)) {
                    return x;
                }
            }
            return NONE;
        }

        int turnedByWins() {
            int count = 0;
            for (int x = 0; x < duels.players; x++) {
                for (int y = x + 1; y < duels.players; y++) {
                    int more = Integer.bitCount(duels.beats[y]) - Integer.bitCount(duels.beats[x]);
                    int ahead = more > 0 ? y : x;
                    if (duels.winnerOf(x, y) != ahead) {
                        count++;
                    }
                }
            }
            return count;
        }
    }

    /**
     * WEIGHTS. Of a set of an odd number of PLAYERS there is one row of numbers, but for a factor,
     * by which nobody of it gains: the Pfaffians of the set without each of them, by turns with the
     * sign changed. (1 for each ARROW and -1 against it makes all Pfaffians odd, so none is 0.) The
     * WEIGHTS are those of the one set where all these have one sign and nobody else gains.
     */
    private static final class Weights {
        /** Far above the steps to a common divisor of any two numbers. */
        private static final int MOST_STEPS = 100;

        final Duels duels;
        final int[] shares = new int[MOST_PLAYERS];
        final int[] pfaffians = new int[ALL_SETS];

        Weights(Duels duels) {
            this.duels = duels;
        }

        /** Puts the WEIGHTS of SOME into the shares: who has one above 0. */
        int balance(int some) {
            findPfaffians(some);
            for (int set = 1; set <= some; set++) {
                if ((set & ~some) == 0 && Integer.bitCount(set) % 2 == 1
                        && shareAmong(set) && nobodyGains(some, shares)) {
                    divideShares();
                    return set;
                }
            }
            return 0;
        }

        void findPfaffians(int some) {
            pfaffians[0] = 1;
            for (int set = 1; set <= some; set++) {
                if ((set & ~some) == 0 && Integer.bitCount(set) % 2 == 0) {
                    pfaffians[set] = pfaffianOf(set);
                }
            }
        }

        int pfaffianOf(int set) {
            int first = lowestOf(set);
            if (first == NONE) {
                return 1;
            }
            int rest = set & ~(1 << first);
            int sum = 0;
            int factor = 1;
            for (int y = first + 1; y < duels.players; y++) {
                if (bitOf(rest, y) == 1) {
                    int part = factor * pfaffians[rest & ~(1 << y)];
                    sum += duels.isBeating(first, y) ? part : -part;
                    factor = -factor;
                }
            }
            return sum;
        }

        /** Whether the numbers by which nobody of the set gains have one sign; they are the shares then. */
        boolean shareAmong(int set) {
            int factor = 0;
            for (int x = 0; x < MOST_PLAYERS; x++) {
                shares[x] = 0;
                if (bitOf(set, x) == 1) {
                    int number = pfaffians[set & ~(1 << x)];
                    if (factor == 0) {
                        factor = number > 0 ? 1 : -1;
                    }
                    shares[x] = factor * number;
                    if (shares[x] <= 0) {
                        return false;
                    }
                    factor = -factor;
                }
            }
            return true;
        }

        /** What x wins by such weights less what x loses. */
        int gainOf(int x, int[] given) {
            int gain = 0;
            for (int y = 0; y < duels.players; y++) {
                if (y != x) {
                    gain += duels.isBeating(x, y) ? given[y] : -given[y];
                }
            }
            return gain;
        }

        boolean nobodyGains(int some, int[] given) {
            for (int x = 0; x < duels.players; x++) {
                if (bitOf(some, x) == 1 && gainOf(x, given) > 0) {
                    return false;
                }
            }
            return true;
        }

        void divideShares() {
            int divisor = 0;
            for (int x = 0; x < MOST_PLAYERS; x++) {
                divisor = commonDivisor(divisor, shares[x]);
            }
            if (divisor <= 1) {
                return;
            }
            for (int x = 0; x < MOST_PLAYERS; x++) {
                shares[x] /= divisor;
            }
        }

        static int commonDivisor(int a, int b) {
            int divisor = a;
            int rest = b;
            for (int steps = 0; steps < MOST_STEPS && rest > 0; steps++) {
                int less = divisor % rest;
                divisor = rest;
                rest = less;
            }
            return divisor;
        }
    }

    /**
     * Cups of 1, 2, 4, 8 PLAYERS. Who wins stays the same if two who duel, or two parts whose winners
     * duel, change their places; so four have three ways to be put together, 8 ROWS each.
     */
    private static final class Cups {
        private static final int WAYS_OF_FOUR = 3;
        private static final int ROWS_OF_A_WAY = 8;

        final Duels duels;
        final int[] row = new int[MOST_PLAYERS];

        Cups(Duels duels) {
            this.duels = duels;
        }

        boolean fits(int size) {
            return size == 1 || size == 2 || size == 4 || size == 8;
        }

        int winners(int some) {
            switch (Integer.bitCount(some)) {
                case 1:
                    return some;
                case 2:
                    putIntoRow(some, 0);
                    return 1 << duels.winnerOf(row[0], row[1]);
                case 4:
                    return winnersOfFour(some);
                case 8:
                    return winnersOfEight(some);
                default:
                    return 0;
            }
        }

        /** Puts them into the row as they stand, from a place on: the place behind them. */
        int putIntoRow(int some, int from) {
            int place = from;
            for (int x = 0; x < duels.players; x++) {
                if (bitOf(some, x) == 1 && place < MOST_PLAYERS) {
                    row[place] = x;
                    place++;
                }
            }
            return place;
        }

        /** Who wins of the first four of the row, if the first one duels the way-th of the others. */
        int winnerByWay(int way) {
            int left = way == 0 ? 2 : 1;
            int right = way == 2 ? 2 : 3;
            return duels.winnerOf(duels.winnerOf(row[0], row[way + 1]),
                    duels.winnerOf(row[left], row[right]));
        }

        int winnersOfFour(int some) {
            putIntoRow(some, 0);
            int those = 0;
            for (int way = 0; way < WAYS_OF_FOUR; way++) {
                those |= 1 << winnerByWay(way);
            }
            return those;
        }

        int winnersOfEight(int all) {
            int those = 0;
            for (int half = 1; half < all; half += 2) {
                if (Integer.bitCount(half) == 4) {
                    int here = winnersOfFour(half);
                    int there = winnersOfFour(all & ~half);
                    those |= winnersOver(here, there) | winnersOver(there, here);
                }
            }
            return those;
        }

        /** Those of some who beat one of the others. */
        int winnersOver(int some, int others) {
            int those = 0;
            for (int x = 0; x < duels.players; x++) {
                if (bitOf(some, x) == 1 && (duels.beats[x] & others) != 0) {
                    those |= 1 << x;
                }
            }
            return those;
        }

        int rowsWonBy(int x) {
            int all = duels.everybody();
            switch (duels.players) {
                case 1:
                    return 1;
                case 2:
                    return duels.beats[x] == 0 ? 0 : 2;
                case 4:
                    return rowsOfFour(all, 1 << x);
                case 8:
                    return rowsOfEight(all, x);
                default:
                    return 0;
            }
        }

        /** By how many ROWS of four one of those wins. */
        int rowsOfFour(int some, int those) {
            putIntoRow(some, 0);
            int ways = 0;
            for (int way = 0; way < WAYS_OF_FOUR; way++) {
                ways += bitOf(those, winnerByWay(way));
            }
            return ROWS_OF_A_WAY * ways;
        }

        int rowsOfEight(int all, int x) {
            int rows = 0;
            for (int half = 1; half < all; half++) {
                if (Integer.bitCount(half) == 4 && bitOf(half, x) == 1) {
                    // The half may stand first or last.
                    rows += 2 * rowsOfFour(half, 1 << x) * rowsOfFour(all & ~half, duels.beats[x]);
                }
            }
            return rows;
        }

        /** The least ROW by which x wins, a PLAYER in each three bits, the first one highest; NONE. */
        int leastRowWonBy(int x) {
            int all = duels.everybody();
            switch (duels.players) {
                case 1:
                    return 0;
                case 2:
                    return duels.beats[x] == 0 ? NONE : 1;
                case 4:
                    return leastRowOfFour(all, 1 << x);
                case 8:
                    return leastRowOfEight(all, x);
                default:
                    return NONE;
            }
        }

        /** The least of these has the least PLAYER first, and the last two as they stand. */
        int leastRowOfFour(int some, int those) {
            putIntoRow(some, 0);
            for (int way = 0; way < WAYS_OF_FOUR; way++) {
                if (bitOf(those, winnerByWay(way)) == 1) {
                    int left = way == 0 ? 2 : 1;
                    int right = way == 2 ? 2 : 3;
                    return ((row[0] << 3 | row[way + 1]) << 3 | row[left]) << 3 | row[right];
                }
            }
            return NONE;
        }

        int leastRowOfEight(int all, int x) {
            int least = NONE;
            // The least PLAYER is in the first half of the least ROW.
            for (int half = 1; half < all; half += 2) {
                if (Integer.bitCount(half) != 4) {
                    continue;
                }
                boolean isFirst = bitOf(half, x) == 1;
                int first = leastRowOfFour(half, isFirst ? 1 << x : duels.beats[x]);
                int last = leastRowOfFour(all & ~half, isFirst ? duels.beats[x] : 1 << x);
                if (first == NONE || last == NONE) {
                    continue;
                }
                int whole = first << 12 | last;
                if (least == NONE || whole < least) {
                    least = whole;
                }
            }
            return least;
        }

        int placeIn(int packedRow, int place, int size) {
            return packedRow >> 3 * (size - 1 - place) & 7;
        }

        int playWithFirst(int set) {
            int place = putIntoRow(set, 0);
            putIntoRow(duels.everybody() & ~set, place);
            for (int left = duels.players / 2; left >= 1; left /= 2) {
                for (int i = 0; i < left; i++) {
                    row[i] = duels.winnerOf(row[2 * i], row[2 * i + 1]);
                }
            }
            return row[0];
        }
    }

    /** PROOFS: their LINES as words, and what the latest judge() told of them. */
    private static final class Proofs {
        /** The shortest LINE has two signs, and there is one between two LINES. */
        private static final int MOST_LINES = MOST_SIGNS / 3;
        private static final int MOST_DIGITS = 3;
        /** Letters are the words 0 to 7; a NUMBER is the word greater than it by this. */
        private static final int NUMBERS = MOST_PLAYERS;

        private static final int NO_PLAYER = 1;
        private static final int TWICE = 2;
        private static final int OTHER_WAY_ROUND = 3;
        private static final int NOT_WHOLE = 4;
        private static final int NOT_SO = 5;
        private static final int SAID_AHEAD = 6;

        final Duels duels;
        final Signs text;
        final Sets sets;
        final Orders orders;
        final Weights weights;

        /** Of each LINE its first sign, then its letters and NUMBERS. */
        final int[] words = new int[MOST_SIGNS];
        final int[] starts = new int[MOST_LINES + 2];
        final int[] given = new int[MOST_PLAYERS];
        int wordCount;
        int lineCount;

        boolean isJudged;
        int firstWrong;
        int reason;
        int linesJudged;
        int provedFirst;

        Proofs(Duels duels, Signs text, Sets sets, Orders orders, Weights weights) {
            this.duels = duels;
            this.text = text;
            this.sets = sets;
            this.orders = orders;
            this.weights = weights;
        }

        /** Reads all LINES: where the FAULT is, NONE. */
        int readLines() {
            text.at = 0;
            wordCount = 0;
            lineCount = 0;
            starts[0] = 0;
            for (int line = 0; line <= MOST_LINES; line++) {
                if (!readLine()) {
                    return text.at;
                }
                lineCount = line + 1;
                starts[lineCount] = wordCount;
                if (text.next() != ';') {
                    break;
                }
                text.at++;
            }
            return text.next() == NONE ? NONE : text.at;
        }

        /** Whether a LINE stands there; if not, the text is left at the sign that makes the FAULT. */
        boolean readLine() {
            int kind = text.next();
            switch (kind) {
                case 'u':
                    addSign(kind);
                    return readLetter() && readLetter() && readMoreLetters(1);
                case 'k':
                case 'c':
                case 'r':
                    addSign(kind);
                    return readLetter() && readMoreLetters(MOST_SIGNS);
                case 's':
                    addSign(kind);
                    return readNumber() && readLetter() && readMoreLetters(MOST_SIGNS);
                case 'w':
                    addSign(kind);
                    return readWeights();
                default:
                    return false;
            }
        }

        void addSign(int word) {
            text.at++;
            addWord(word);
        }

        /** A word takes a sign of the text at least, so there is room for it. */
        void addWord(int word) {
            if (wordCount < MOST_SIGNS) {
                words[wordCount] = word;
                wordCount++;
            }
        }

        boolean readLetter() {
            int letter = text.nextLetter();
            if (letter == NONE) {
                return false;
            }
            addSign(letter);
            return true;
        }

        boolean readMoreLetters(int limit) {
            for (int i = 0; i < limit; i++) {
                if (!readLetter()) {
                    break;
                }
            }
            return true;
        }

        boolean readNumber() {
            int digit = text.nextDigit();
            if (digit == NONE) {
                return false;
            }
            int number = 0;
            for (int digits = 0; digits < MOST_DIGITS && digit != NONE; digits++) {
                number = 10 * number + digit;
                text.at++;
                digit = text.nextDigit();
            }
            addWord(NUMBERS + number);
            return true;
        }

        boolean readWeights() {
            for (int i = 0; i <= MOST_SIGNS; i++) {
                if (!readLetter() || !readNumber()) {
                    return false;
                }
                if (text.nextLetter() == NONE) {
                    break;
                }
            }
            return true;
        }

        /** How many LINES there are ahead of the first that is WRONG. */
        int judgeLines() {
            isJudged = true;
            firstWrong = NONE;
            reason = 0;
            linesJudged = lineCount;
            provedFirst = 0;
            for (int line = 0; line < lineCount; line++) {
                judgeLine(line);
                if (reason != 0) {
                    firstWrong = line;
                    return line;
                }
                provedFirst |= firstOf(line);
            }
            return lineCount;
        }

        /** Who stands first in a k or an s, as a bit. */
        int firstOf(int line) {
            int start = starts[line];
            switch (words[start]) {
                case 'k':
                    return 1 << words[start + 1];
                case 's':
                    return 1 << words[start + 2];
                default:
                    return 0;
            }
        }

        /** Finds the reason why a LINE is WRONG, 0 without one. */
        void judgeLine(int line) {
            int from = starts[line] + 1;
            int to = starts[line + 1];
            int letters = lettersOf(from, to);
            if (!duels.arePlayers(letters)) {
                reason = NO_PLAYER;
            } else if (Integer.bitCount(letters) < countLetters(from, to)) {
                reason = TWICE;
            } else {
                reason = whyNotSo(words[from - 1], from, to, letters);
            }
            if (reason == 0 && isSaidAhead(line)) {
                reason = SAID_AHEAD;
            }
        }

        int lettersOf(int from, int to) {
            int letters = 0;
            for (int i = from; i < to; i++) {
                if (words[i] < NUMBERS) {
                    letters |= 1 << words[i];
                }
            }
            return letters;
        }

        int countLetters(int from, int to) {
            int count = 0;
            for (int i = from; i < to; i++) {
                if (words[i] < NUMBERS) {
                    count++;
                }
            }
            return count;
        }

        int whyNotSo(int kind, int from, int to, int letters) {
            int all = duels.everybody();
            switch (kind) {
                case 'u':
                    return isStep(from, to) ? 0 : OTHER_WAY_ROUND;
                case 'k':
                    return whyNoChain(from, to, letters);
                case 's':
                    return whyNoBestOrder(from, to, letters);
                case 'w':
                    return whyNoWeights(from, to);
                case 'c':
                    return sets.isCoveringSet(letters, all) ? 0 : NOT_SO;
                default:
                    return sets.isKeepingSet(letters, all) ? 0 : NOT_SO;
            }
        }

        boolean isStep(int from, int to) {
            int x = words[from];
            int y = words[from + 1];
            if (to - from == 2) {
                return duels.isBeating(x, y);
            }
            int z = words[from + 2];
            return duels.isBeating(x, z) && duels.isBeating(z, y);
        }

        int whyNoChain(int from, int to, int letters) {
            if (countTurned(from, to) > 0) {
                return OTHER_WAY_ROUND;
            }
            for (int z = 0; z < duels.players; z++) {
                if ((letters & ~duels.beats[z]) == 0) {
                    return NOT_WHOLE;
                }
            }
            return 0;
        }

        int whyNoBestOrder(int from, int to, int letters) {
            if (letters != duels.everybody()) {
                return NOT_WHOLE;
            }
            orders.measure(letters);
            int number = words[from] - NUMBERS;
            boolean isSo = countTurned(from + 1, to) == number && orders.turned[letters] == number;
            return isSo ? 0 : NOT_SO;
        }

        int countTurned(int from, int to) {
            int turned = 0;
            for (int i = from; i < to; i++) {
                for (int k = i + 1; k < to; k++) {
                    if (duels.isBeating(words[k], words[i])) {
                        turned++;
                    }
                }
            }
            return turned;
        }

        int whyNoWeights(int from, int to) {
            for (int x = 0; x < MOST_PLAYERS; x++) {
                given[x] = 0;
            }
            int sum = 0;
            for (int i = from; i + 1 < to; i += 2) {
                given[words[i]] = words[i + 1] - NUMBERS;
                sum += given[words[i]];
            }
            if (sum == 0) {
                return NOT_WHOLE;
            }
            return weights.nobodyGains(duels.everybody(), given) ? 0 : NOT_SO;
        }

        boolean isSaidAhead(int line) {
            for (int other = 0; other < line; other++) {
                if (saysTheSame(other, line)) {
                    return true;
                }
            }
            return false;
        }

        boolean saysTheSame(int line, int other) {
            int size = starts[line + 1] - starts[line];
            if (size != starts[other + 1] - starts[other]) {
                return false;
            }
            for (int i = 0; i < size; i++) {
                if (words[starts[line] + i] != words[starts[other] + i]) {
                    return false;
                }
            }
            return true;
        }
    }

    /** Ways to give other names, by which one ROUND becomes another one. */
    private static final class Names {
        final int[] named = new int[MOST_PLAYERS];

        int waysToRename(Duels one, Duels other) {
            return one.players == other.players ? waysFrom(one, other, 0, 0) : 0;
        }

        /** Of the PLAYERS from x on; those ahead have taken the names that are used. */
        int waysFrom(Duels one, Duels other, int x, int used) {
            if (x >= one.players) {
                return 1;
            }
            int ways = 0;
            for (int name = 0; name < other.players; name++) {
                if (bitOf(used, name) == 0 && isFitting(one, other, x, name)) {
                    named[x] = name;
                    ways += waysFrom(one, other, x + 1, used | 1 << name);
                }
            }
            return ways;
        }

        boolean isFitting(Duels one, Duels other, int x, int name) {
            for (int y = 0; y < x; y++) {
                if (one.isBeating(x, y) != other.isBeating(name, named[y])) {
                    return false;
                }
            }
            return true;
        }
    }
}
