import java.util.NoSuchElementException;

/** Hopscotch courts, as ../shared/DOC.md promises them; the words in capitals are that document's. */
public final class HopCourts {
    public static final int NONE = -1;

    /** What a reader of a text tells in place of a place, if every sign can stand. */
    private static final int FINE = -1;
    private static final int MOST_PLAYERS = 4;
    private static final int NOBODY = 4;

    /** Where the numbers of a Standing lie: three of all, then rows of one for each player. */
    private static final int MANY = 0;
    private static final int TURN = 1;
    private static final int THROWS = 2;
    private static final int REACH = 3;
    private static final int AIM = 7;
    private static final int PLACE = 11;
    private static final int HOUSES = 15;
    private static final int FAULTS = 19;
    private static final int RIGHTS = 23;
    private static final int NUMBERS = 27;

    private static final int MOST_REACH = 4;
    private static final int MOST_FAULTS = 99;
    private static final int MOST_RIGHTS = 9;
    private static final int MOST_AHEAD = 99;
    private static final int LINE_SIGNS = 11;
    private static final int GAME_SIGNS = 60;

    private final Text text = new Text();
    private final Told told = new Told();
    private final Court ground = new Court();
    private final Path path = new Path();
    private final Standing now = new Standing(ground, path);
    private final Standing trial = new Standing(ground, path);
    private final Standing before = new Standing(ground, path);
    private final Past past = new Past();
    private final Clues clues = new Clues();
    private final Sights sights = new Sights();
    private final long[] marks = new long[MOST_AHEAD + 1];
    private Rule ruling = new Rule();
    private Rule draft = new Rule();

    public HopCourts() {
    }

    // ---- courts, players

    public int sign(int v) {
        return text.add(v) ? text.length() : NONE;
    }

    public boolean end(int n) {
        return text.cut(n);
    }

    public int court() {
        int wrong = ground.wrongSign(text);
        if (wrong == FINE) {
            ground.lay(text);
            now.clear();
            past.clear();
            clues.clear();
            sights.clear();
        }
        text.clear();
        return wrong == FINE ? ground.squares() : -1 - wrong;
    }

    public int players() {
        int wrong = wrongInLines();
        int lines = 0;
        if (wrong == FINE && text.length() > 0) {
            lines = addLines();
            past.clear();
        }
        text.clear();
        return wrong == FINE ? lines : -1 - wrong;
    }

    public int rule() {
        int wrong = draft.read(text);
        text.clear();
        if (wrong != FINE) {
            return -1 - wrong;
        }
        Rule former = ruling;
        ruling = draft;
        draft = former;
        return 0;
    }

    public int square(int square, int what) throws NoSuchElementException {
        if (!ground.isSquare(square)) {
            throw new NoSuchElementException("no such square");
        }
        switch (what) {
            case 0:
                return ground.rowAt(square);
            case 1:
                return now.ownerOf(square);
            case 2:
                return now.aimingAt(square);
            default:
                throw new NoSuchElementException("nothing such is told of a square");
        }
    }

    public int player(int player, int what) throws NoSuchElementException {
        if (!now.hasPlayer(player)) {
            throw new NoSuchElementException("no such player");
        }
        switch (what) {
            case 0:
                return now.of(REACH, player);
            case 1:
                return now.of(AIM, player);
            case 2:
                return now.of(PLACE, player);
            case 3:
                return now.goalOf(player);
            case 4:
                return now.of(HOUSES, player);
            case 5:
                return now.of(FAULTS, player);
            case 6:
                return now.of(RIGHTS, player);
            case 7:
                return 10 + ruling.off(now, player);
            default:
                throw new NoSuchElementException("nothing such is told of a player");
        }
    }

    public int sheet(int kind, int n, int f, int step) {
        if (kind < 0 || kind > 3 || n > MOST_PLAYERS) {
            return NONE;
        }
        boolean missing = kind == 3;
        if (!missing && n < 0) {
            return -2;
        }
        for (int player = 0; player < now.many(); player++) {
            boolean onSheet = !missing && player < n;
            now.put(AIM, player, onSheet ? sheetAim(kind, f + player * step) : 0);
        }
        return missing ? -3 : now.total(AIM);
    }

    // ---- throws, houses

    public int throwsOne() {
        if (now.many() == 0) {
            return NONE;
        }
        before.copy(now);
        int thrower = now.turn();
        int stone = now.goalOf(thrower) + ruling.off(now, thrower);
        boolean right = now.makeThrow(ruling);
        past.add(before);
        told.clear();
        told.add(100 + stone);
        told.add(now.turn());
        return right ? 1 : 0;
    }

    public int plays(int n) {
        if (n < 1 || n > 60 || now.many() == 0) {
            return NONE;
        }
        past.add(now);
        int right = rightThrows(now, ruling, n);
        told.clear();
        for (int player = 0; player < now.many(); player++) {
            told.add(now.of(PLACE, player));
        }
        return right;
    }

    public int passes() {
        before.copy(now);
        return remembered(passNow());
    }

    public int takes(int player, int square) {
        before.copy(now);
        return remembered(takeNow(player, square));
    }

    public int leaves(int player, int square) {
        before.copy(now);
        return remembered(leaveNow(player, square));
    }

    public int grows(int player, int v) {
        before.copy(now);
        return remembered(growNow(player, v));
    }

    public int game() {
        int wrong = wrongInGame();
        int done = 0;
        if (wrong == FINE) {
            before.copy(now);
            int signs = text.length();
            int at = 0;
            while (at < signs && actNow(at) >= 0) {
                int digits = digitsBehind(text.signAt(at, signs));
                at += digits > 0 ? 1 + digits : 1;
                done++;
            }
            if (done > 0) {
                past.add(before);
            }
            told.clear();
            told.add(at < signs ? 1 : 0);
            told.add(now.turn());
        }
        text.clear();
        return wrong == FINE ? done : -1 - wrong;
    }

    public int undo() {
        return past.bringBack(now) ? past.many() : NONE;
    }

    // ---- hopping through

    public int hop(int player, int s) {
        if (!now.hasPlayer(player) || !ground.isStone(s)) {
            return NONE;
        }
        if (!now.canHop(player, ground.bitOf(s), now.of(REACH, player))) {
            return -2;
        }
        told.clear();
        int at = path.nextFrom(0);
        for (int hops = 1; hops < path.fewestHops(); hops++) {
            told.add(at - 1);
            at = path.nextFrom(at);
        }
        return path.fewestHops();
    }

    public int ways(int player, int s) {
        if (!now.hasPlayer(player) || !ground.isStone(s)) {
            return NONE;
        }
        boolean can = now.canHop(player, ground.bitOf(s), now.of(REACH, player));
        told.clear();
        if (can) {
            told.add(path.mostHops() - 1);
            told.add(path.fewestHops() - 1);
        }
        return path.waysThrough();
    }

    public int traps(int player) {
        if (!now.hasPlayer(player)) {
            return NONE;
        }
        return tellSet(now.trapsOf(player, now.of(REACH, player)));
    }

    public int needs(int player) {
        if (!now.hasPlayer(player)) {
            return NONE;
        }
        int byOneLess = 0;
        for (int reach = 1; reach <= 9; reach++) {
            int many = Integer.bitCount(now.trapsOf(player, reach));
            if (many == 0) {
                told.clear();
                told.add(byOneLess);
                return reach;
            }
            byOneLess = many;
        }
        return -2;
    }

    public int gap(int player) {
        if (!now.hasPlayer(player)) {
            return NONE;
        }
        int free = now.freeRows(player, 0);
        int longest = 0;
        int first = 0;
        int length = 0;
        for (int row = 0; row < ground.rows(); row++) {
            length = (free >> row & 1) == 0 ? length + 1 : 0;
            if (length > longest) {
                longest = length;
                first = row - length + 1;
            }
        }
        told.clear();
        if (longest > 0) {
            told.add(first);
        }
        return longest;
    }

    // ---- houses

    public int gates(int player) {
        if (!now.hasPlayer(player)) {
            return NONE;
        }
        int shutting = 0;
        int nobodys = now.nobodys();
        int reach = now.of(REACH, player);
        for (int square = 0; square < ground.squares(); square++) {
            int bit = 1 << square;
            if ((nobodys & bit) != 0 && !now.canHop(player, bit, reach)) {
                shutting |= bit;
            }
        }
        return tellSet(shutting);
    }

    public int shuts(int player) {
        if (!now.hasPlayer(player)) {
            return NONE;
        }
        boolean found = false;
        int fewest = 0;
        int nobodys = now.nobodys();
        int reach = now.of(REACH, player);
        // The fewest bar whole ROWS: a SQUARE taken in a ROW that stays FREE is one too many.
        for (int rows = 0; rows < 1 << ground.rows(); rows++) {
            int taken = ground.squaresOf(rows) & nobodys;
            if (!now.canHop(player, taken, reach) && (!found || isLessSet(taken, fewest))) {
                found = true;
                fewest = taken;
            }
        }
        if (!found) {
            return -2;
        }
        told.clear();
        told.add(fewest);
        return Integer.bitCount(fewest);
    }

    public int best(int player) {
        if (!now.hasPlayer(player)) {
            return NONE;
        }
        int best = NONE;
        int most = 0;
        int nobodys = now.nobodys();
        trial.copy(now);
        for (int square = 0; square < ground.squares(); square++) {
            if ((nobodys >> square & 1) != 0) {
                trial.put(HOUSES, player, now.of(HOUSES, player) | 1 << square);
                int trapped = trial.trapsOfOthers(player);
                if (best == NONE || trapped > most) {
                    best = square;
                    most = trapped;
                }
            }
        }
        if (best == NONE) {
            return -2;
        }
        told.clear();
        told.add(most);
        told.add(now.trapsOfOthers(player));
        return best;
    }

    public int houses() {
        told.clear();
        int all = 0;
        for (int player = 0; player < now.many(); player++) {
            int own = Integer.bitCount(now.of(HOUSES, player));
            told.add(own);
            all += own;
        }
        return all;
    }

    // ---- throws to come

    public int later(int player, int n) {
        if (!now.hasPlayer(player) || n < 0 || n > MOST_AHEAD) {
            return NONE;
        }
        trial.copy(now);
        rightThrows(trial, ruling, n);
        told.clear();
        told.add(trial.of(RIGHTS, player));
        told.add(trial.of(FAULTS, player));
        return trial.of(PLACE, player);
    }

    public int when(int player) {
        if (!now.hasPlayer(player)) {
            return NONE;
        }
        trial.copy(now);
        for (int behind = 1; behind <= MOST_AHEAD; behind++) {
            trial.makeThrow(ruling);
            if (trial.of(RIGHTS, player) > now.of(RIGHTS, player)) {
                told.clear();
                told.add(trial.total(FAULTS));
                return behind;
            }
        }
        return -2;
    }

    public int run(int n) {
        if (n < 1 || n > MOST_AHEAD || now.many() == 0) {
            return NONE;
        }
        trial.copy(now);
        int longest = 0;
        int first = 0;
        int length = 0;
        for (int number = 1; number <= n; number++) {
            length = trial.makeThrow(ruling) ? length + 1 : 0;
            if (length > longest) {
                longest = length;
                first = number - length + 1;
            }
        }
        told.clear();
        told.add(first);
        return longest;
    }

    public int round() {
        if (now.many() == 0) {
            return -2;
        }
        trial.copy(now);
        for (int behind = 0; behind < marks.length; behind++) {
            marks[behind] = trial.mark();
            for (int fewer = 0; fewer < behind; fewer++) {
                if (marks[fewer] == marks[behind]) {
                    told.clear();
                    told.add(fewer);
                    return behind;
                }
            }
            trial.makeThrow(ruling);
        }
        return -2;
    }

    public int order() {
        told.clear();
        int many = now.many();
        for (int ahead = 0; ahead < many; ahead++) {
            for (int player = 0; player < many; player++) {
                if (now.leadersOf(player) == ahead) {
                    told.add(player);
                }
            }
        }
        return many;
    }

    // ---- which player it was

    public int heard(int what, int v) {
        return clues.add(what, v) ? clues.many() : NONE;
    }

    public int forget() {
        int were = clues.many();
        clues.clear();
        return were;
    }

    public int fits() {
        return tellSet(clues.fitting(now));
    }

    public int asks() {
        int fitting = clues.fitting(now);
        if (fitting == 0) {
            return -2;
        }
        int best = NONE;
        int least = 0;
        for (int what = 0; what < Clues.KINDS; what++) {
            for (int v = Clues.leastOf(what); v <= Clues.mostOf(what); v++) {
                int left = Clues.leftAtMost(now, fitting, what, v);
                if (best == NONE || left < least) {
                    best = 10 * what + v;
                    least = left;
                }
            }
        }
        told.clear();
        told.add(least);
        return best;
    }

    // ---- laws of throwing

    public int saw(int n, int v) {
        return sights.add(n, v) ? sights.many() : NONE;
    }

    public int denies() {
        int were = sights.many();
        sights.clear();
        return were;
    }

    public int laws() {
        told.clear();
        int fitting = 0;
        for (int a = 0; a <= 6; a++) {
            for (int b = 0; b <= 6; b++) {
                if (sights.fitLaw(a, b)) {
                    if (fitting == 0) {
                        told.add(a);
                        told.add(b);
                    }
                    fitting++;
                }
            }
        }
        return fitting;
    }

    public int looks() {
        int best = NONE;
        int least = 0;
        for (int n = 0; n <= 6; n++) {
            int left = sights.leftAtMost(n);
            if (best == NONE || left < least) {
                best = n;
                least = left;
            }
        }
        if (least == 0) {
            return -2;
        }
        told.clear();
        told.add(least);
        return best;
    }

    // ---- luck, a dare

    public int luck(int player, int k, int p) {
        if (!now.hasPlayer(player) || k < 0 || k > 8 || p < 0 || p > 10) {
            return NONE;
        }
        trial.copy(now);
        long upper = 1;
        for (int i = 0; i < k; i++) {
            upper = trial.goesOn(player) ? upper * p : 0;
        }
        tellFraction(upper, power(10, k));
        return 0;
    }

    public int hits(int k, int m, int p) {
        if (k < 0 || k > 8 || m < 0 || m > k || p < 0 || p > 10) {
            return NONE;
        }
        long choices = 1;
        for (int i = 1; i <= m; i++) {
            choices = choices * (k - m + i) / i;
        }
        tellFraction(choices * power(p, m) * power(10 - p, k - m), power(10, k));
        return 0;
    }

    public int dare(int player, int k) {
        if (!now.hasPlayer(player) || k < 1 || k > 8) {
            return NONE;
        }
        int to = winningMove(now.freeRows(player, 0), k);
        told.clear();
        if (to == NONE) {
            return 0;
        }
        told.add(to);
        return 1;
    }

    // ---- rests, rules, years

    public int rests(int v) {
        if (v < 0 || v > 18) {
            return NONE;
        }
        told.clear();
        int pairs = 0;
        for (int x = 0; x <= 9; x++) {
            for (int y = 0; y <= 9; y++) {
                if (isBestChalk(x, y, v) && isBestChalk(y, x, v)) {
                    if (pairs == 0) {
                        told.add(x);
                        told.add(y);
                    }
                    pairs++;
                }
            }
        }
        return pairs;
    }

    public int law() {
        int wrong = draft.read(text);
        text.clear();
        if (wrong != FINE) {
            return -10000 - wrong;
        }
        if (now.many() == 0) {
            return -2;
        }
        trial.copy(now);
        int byOther = rightThrows(trial, draft, 30);
        int faultsByOther = trial.total(FAULTS);
        trial.copy(now);
        int byRule = rightThrows(trial, ruling, 30);
        told.clear();
        told.add(byOther);
        told.add(byRule);
        told.add(faultsByOther);
        told.add(trial.total(FAULTS));
        return byOther - byRule;
    }

    public int years(int seed, int n) {
        if (n < 1 || n > 60) {
            return NONE;
        }
        trial.copy(now);
        int many = trial.many();
        int right = 0;
        int drawn = seed;
        // Without PLAYERS the draws change nothing that could be told.
        for (int i = 0; i < n && many > 0; i++) {
            drawn = nextDraw(drawn);
            if (drawOf(drawn, 4) < 3) {
                right += trial.makeThrow(ruling) ? 1 : 0;
            } else {
                drawn = nextDraw(drawn);
                int player = drawOf(drawn, many);
                drawn = nextDraw(drawn);
                trial.put(AIM, player, drawOf(drawn, 10));
            }
        }
        told.clear();
        told.add(trial.total(FAULTS));
        told.add(trial.turn());
        return right;
    }

    // ---- kept

    public boolean keep(int i) {
        return past.keepUnder(i, now);
    }

    public boolean again(int i) {
        return past.bringKept(i, now);
    }

    public int count(int what) {
        switch (what) {
            case 0:
                return ground.rows();
            case 1:
                return ground.squares();
            case 2:
                return now.many();
            case 3:
                return now.turn();
            case 4:
                return now.throwsMade();
            case 5:
                return now.total(FAULTS);
            case 6:
                return now.total(RIGHTS);
            case 7:
                return clues.many();
            case 8:
                return sights.many();
            case 9:
                return past.many();
            case 10:
                return told.many();
            case 11:
                return text.length();
            default:
                return NONE;
        }
    }

    public long row(int i) throws NoSuchElementException {
        if (!told.has(i)) {
            throw new NoSuchElementException("no such number is told");
        }
        return told.at(i);
    }

    // ---- what the calls above share

    /** The first sign of THE TEXT that can't stand in LINES of PLAYERS, or FINE. */
    private int wrongInLines() {
        int limit = Math.min(text.length(), LINE_SIGNS);
        int room = MOST_PLAYERS - now.many();
        for (int at = 0; at < limit; at++) {
            int sign = text.signAt(at, limit);
            int part = at % 3;
            boolean stands = part == 0 ? at / 3 < room && sign >= '1' && sign <= '4'
                    : part == 1 ? isDigit(sign) : sign == ';';
            if (!stands) {
                return at;
            }
        }
        boolean endsEarly = limit > 0 && limit % 3 != 2;
        return endsEarly || text.length() > limit ? limit : FINE;
    }

    private int addLines() {
        int lines = 0;
        for (int at = 0; at + 1 < text.length(); at += 3) {
            now.addPlayer(text.digitAt(at), text.digitAt(at + 1));
            lines++;
        }
        return lines;
    }

    private static int sheetAim(int kind, int entry) {
        int signed = kind == 0 ? (byte) entry : kind == 1 ? (short) entry : entry;
        return Math.max(0, Math.min(9, signed));
    }

    private static boolean isDigit(int sign) {
        return sign >= '0' && sign <= '9';
    }

    /** How many digits come behind the first sign of an ACT; NONE if no ACT begins so. */
    private static int digitsBehind(int sign) {
        switch (sign) {
            case '*':
            case '/':
                return 0;
            case 'g':
                return 2;
            case 't':
            case 'l':
                return 3;
            default:
                return NONE;
        }
    }

    /** The first sign of THE TEXT that can't stand in A GAME, or FINE. */
    private int wrongInGame() {
        int limit = Math.min(text.length(), GAME_SIGNS);
        int digits = 0;
        for (int at = 0; at < limit; at++) {
            int sign = text.signAt(at, limit);
            boolean stands = digits > 0 ? isDigit(sign) : digitsBehind(sign) != NONE;
            if (!stands) {
                return at;
            }
            digits = digits > 0 ? digits - 1 : digitsBehind(sign);
        }
        return digits > 0 || text.length() > limit ? limit : FINE;
    }

    /** Does the ACT that begins at a place of THE TEXT: what its call answers. */
    private int actNow(int at) {
        int first = text.digitAt(at + 1);
        int second = text.digitAt(at + 2);
        int third = text.digitAt(at + 3);
        switch (text.signAt(at, text.length())) {
            case '*':
                return now.many() == 0 ? NONE : now.makeThrow(ruling) ? 1 : 0;
            case '/':
                return passNow();
            case 't':
                return takeNow(first, 10 * second + third);
            case 'l':
                return leaveNow(first, 10 * second + third);
            case 'g':
                return growNow(first, second);
            default:
                return NONE;
        }
    }

    /** Keeps how all was ahead of an act, for undo(), if the act was done. */
    private int remembered(int answer) {
        if (answer >= 0) {
            past.add(before);
        }
        return answer;
    }

    private int passNow() {
        if (now.many() == 0) {
            return NONE;
        }
        now.passTurn();
        return now.turn();
    }

    private int takeNow(int player, int square) {
        if (!now.hasPlayer(player) || !ground.isSquare(square)) {
            return NONE;
        }
        int rights = now.of(RIGHTS, player);
        if (rights == 0) {
            return -2;
        }
        if (now.ownerOf(square) != NOBODY) {
            return -3;
        }
        int own = now.of(HOUSES, player) | ground.bitOf(square);
        now.put(RIGHTS, player, rights - 1);
        now.put(HOUSES, player, own);
        return Integer.bitCount(own);
    }

    private int leaveNow(int player, int square) {
        if (!now.hasPlayer(player) || !ground.isSquare(square)) {
            return NONE;
        }
        if (now.ownerOf(square) != player) {
            return -2;
        }
        int own = now.of(HOUSES, player) & ~ground.bitOf(square);
        now.put(HOUSES, player, own);
        return Integer.bitCount(own);
    }

    private int growNow(int player, int v) {
        if (!now.hasPlayer(player) || v < 1 || v > MOST_REACH) {
            return NONE;
        }
        int former = now.of(REACH, player);
        if (former == v) {
            return -2;
        }
        now.put(REACH, player, v);
        return 10 + former;
    }

    /** Makes n THROWS of a standing: how many were no faults. */
    private static int rightThrows(Standing standing, Rule rule, int n) {
        int right = 0;
        for (int i = 0; i < n; i++) {
            right += standing.makeThrow(rule) ? 1 : 0;
        }
        return right;
    }

    private int tellSet(int bits) {
        told.clear();
        told.add(Integer.bitCount(bits));
        return bits;
    }

    private static boolean isLessSet(int one, int other) {
        int fewer = Integer.bitCount(one) - Integer.bitCount(other);
        return fewer < 0 || fewer == 0 && one < other;
    }

    private static long power(int base, int times) {
        long value = 1;
        for (int i = 0; i < times; i++) {
            value *= base;
        }
        return value;
    }

    private void tellFraction(long upper, long lower) {
        long divisor = lower;
        long rest = upper;
        // Euclid's rests fall by half in two steps: 100 is far above what longs need.
        for (int i = 0; i < 100 && rest != 0; i++) {
            long next = divisor % rest;
            divisor = rest;
            rest = next;
        }
        told.clear();
        told.add(divisor == 0 ? upper : upper / divisor);
        told.add(divisor == 0 ? lower : lower / divisor);
    }

    /** The least ROW (all of them: BEYOND) by which who hops the marker on from START wins; NONE if none does. */
    private int winningMove(int freeRows, int k) {
        int rows = ground.rows();
        int won = 0;
        int move = NONE;
        for (int from = rows - 1; from >= NONE; from--) {
            move = NONE;
            for (int to = Math.min(from + k, rows); to > from; to--) {
                boolean wins = to == rows || (freeRows >> to & 1) != 0 && (won >> to & 1) == 0;
                move = wins ? to : move;
            }
            if (move != NONE && from >= 0) {
                won |= 1 << from;
            }
        }
        return move;
    }

    private static int chalkWorth(int own, int other, int room) {
        int less = own + other > room ? 2 * other : 0;
        return 3 * own - less + (own < other ? 1 : 0);
    }

    private static boolean isBestChalk(int own, int other, int room) {
        int worth = chalkWorth(own, other, room);
        for (int instead = 0; instead <= 9; instead++) {
            if (chalkWorth(instead, other, room) > worth) {
                return false;
            }
        }
        return true;
    }

    private static int nextDraw(int drawn) {
        return drawn * 1103515245 + 12345;
    }

    private static int drawOf(int drawn, int n) {
        return n > 0 ? (drawn >>> 16) % n : 0;
    }

    /** THE TEXT. */
    private static final class Text {
        private static final int ROOM = 80;
        private static final int END = -1;

        private final char[] signs = new char[ROOM];
        private int length;

        boolean add(int v) {
            if (length + 4 > ROOM) {
                return false;
            }
            for (int shift = 24; shift >= 0; shift -= 8) {
                signs[length] = (char) (v >>> shift & 255);
                length++;
            }
            return true;
        }

        boolean cut(int n) {
            if (n < 0 || n > length) {
                return false;
            }
            length = n;
            return true;
        }

        void clear() {
            length = 0;
        }

        int length() {
            return length;
        }

        /** The sign at a place; END from the limit on, so that what comes behind it is not read. */
        int signAt(int at, int limit) {
            return at >= 0 && at < limit && at < length ? signs[at] : END;
        }

        int digitAt(int at) {
            int sign = signAt(at, length);
            return isDigit(sign) ? sign - '0' : NONE;
        }
    }

    /** The told numbers. */
    private static final class Told {
        private static final int ROOM = 8;

        private final long[] numbers = new long[ROOM];
        private int many;

        void clear() {
            many = 0;
        }

        void add(long number) {
            if (many < ROOM) {
                numbers[many] = number;
                many++;
            }
        }

        int many() {
            return many;
        }

        boolean has(int i) {
            return i >= 0 && i < many;
        }

        long at(int i) {
            return has(i) ? numbers[i] : 0;
        }
    }

    /** THE COURT; sets of SQUARES and of ROWS are bits. */
    private static final class Court {
        private static final int MOST_ROWS = 8;
        private static final int MOST_SQUARES = 16;

        private final int[] rowOf = new int[MOST_SQUARES];
        private final int[] squaresIn = new int[MOST_ROWS];
        private int rows;
        private int squares;

        Court() {
            addRow(1);
            addRow(2);
            addRow(1);
        }

        /** The first sign of a text that can't stand in a court, or FINE. */
        int wrongSign(Text text) {
            int limit = Math.min(text.length(), MOST_ROWS);
            for (int at = 0; at < limit; at++) {
                int size = text.digitAt(at);
                if (size != 1 && size != 2) {
                    return at;
                }
            }
            return limit == 0 || text.length() > limit ? limit : FINE;
        }

        void lay(Text text) {
            rows = 0;
            squares = 0;
            for (int at = 0; at < text.length(); at++) {
                addRow(text.digitAt(at));
            }
        }

        private void addRow(int size) {
            if (rows >= MOST_ROWS) {
                return;
            }
            squaresIn[rows] = 0;
            for (int i = 0; i < size && squares < MOST_SQUARES; i++) {
                rowOf[squares] = rows;
                squaresIn[rows] |= 1 << squares;
                squares++;
            }
            rows++;
        }

        int rows() {
            return rows;
        }

        int squares() {
            return squares;
        }

        boolean isSquare(int square) {
            return square >= 0 && square < squares;
        }

        /** A stone may lie nowhere, too: told by how many SQUARES there are. */
        boolean isStone(int s) {
            return s >= 0 && s <= squares;
        }

        int bitOf(int square) {
            return isSquare(square) ? 1 << square : 0;
        }

        int allSquares() {
            return (1 << squares) - 1;
        }

        /** The ROW of a SQUARE; how many ROWS there are for what is none. */
        int rowAt(int square) {
            return isSquare(square) && square < MOST_SQUARES ? rowOf[square] : rows;
        }

        /** ROWS that have one SQUARE of a set at least. */
        int rowsWith(int set) {
            int found = 0;
            for (int row = 0; row < rows && row < MOST_ROWS; row++) {
                if ((squaresIn[row] & set) != 0) {
                    found |= 1 << row;
                }
            }
            return found;
        }

        /** All SQUARES of a set of ROWS. */
        int squaresOf(int rowSet) {
            int found = 0;
            for (int row = 0; row < rows && row < MOST_ROWS; row++) {
                if ((rowSet >> row & 1) != 0) {
                    found |= squaresIn[row];
                }
            }
            return found;
        }
    }

    /** HOPS from START (0) over ROWS (each by 1 more than its number) to BEYOND (behind the last one). */
    private static final class Path {
        private static final int PLACES = Court.MOST_ROWS + 2;

        private final int[] ways = new int[PLACES];
        private final int[] fewest = new int[PLACES];
        private final int[] most = new int[PLACES];
        private final int[] next = new int[PLACES];
        private int beyond;
        private int own;
        private int reach;
        /** Places on which one may land and from which one comes BEYOND. */
        private int onward;

        /** Weighs all ways through: whether there is one. */
        boolean opens(int rows, int freeRows, int ownRows, int reachOfOne) {
            beyond = Math.max(1, Math.min(rows + 1, PLACES - 1));
            own = ownRows << 1;
            reach = reachOfOne;
            onward = 1 << beyond;
            ways[beyond] = 1;
            fewest[beyond] = 0;
            most[beyond] = 0;
            for (int at = beyond - 1; at >= 0; at--) {
                weigh(at);
                if (ways[at] > 0) {
                    onward |= freeRows << 1 & 1 << at;
                }
            }
            return ways[0] > 0;
        }

        private void weigh(int at) {
            ways[at] = 0;
            fewest[at] = PLACES;
            most[at] = 0;
            next[at] = beyond;
            int last = Math.min(beyond, at + reach + (own >> at & 1));
            for (int to = at + 1; to <= last; to++) {
                if ((onward >> to & 1) != 0) {
                    ways[at] += ways[to];
                    most[at] = Math.max(most[at], most[to] + 1);
                    // Only fewer HOPS change it: of as few the least place stays.
                    if (fewest[to] + 1 < fewest[at]) {
                        fewest[at] = fewest[to] + 1;
                        next[at] = to;
                    }
                }
            }
        }

        /** The least place by which as few HOPS as can be are left. */
        int nextFrom(int at) {
            return at >= 0 && at < beyond ? next[at] : beyond;
        }

        int waysThrough() {
            return ways[0];
        }

        int fewestHops() {
            return fewest[0];
        }

        int mostHops() {
            return most[0];
        }
    }

    /** THE RULE, or another one: read from a text into signs that are worked off from the left. */
    private static final class Rule {
        private static final int MOST_SIGNS = 40;
        private static final int MOST_BRACKETS = 4;
        private static final int MOST_DIGITS = 3;
        private static final int MOST_OFF = 3;
        private static final int NEGATE = '~';

        /** Numbers as they are; signs as less than 0. Each comes from a sign of the text at least. */
        private final int[] steps = new int[MOST_SIGNS];
        private final int[] stack = new int[MOST_SIGNS];
        private int many;
        private int height;
        private Text source;
        private int at;
        private int limit;

        Rule() {
            beUsual();
        }

        private void beUsual() {
            many = 0;
            addSign('n');
            addSign('a');
            addSign('>');
        }

        private void add(int step) {
            if (many < MOST_SIGNS) {
                steps[many] = step;
                many++;
            }
        }

        private void addSign(int sign) {
            add(-sign);
        }

        /** Becomes what a text tells: FINE, or the first sign that can't stand (the rule is of no use then). */
        int read(Text text) {
            source = text;
            at = 0;
            limit = Math.min(text.length(), MOST_SIGNS);
            if (text.length() == 0) {
                beUsual();
                return FINE;
            }
            many = 0;
            boolean whole = readExpression(0) && at == text.length();
            return whole ? FINE : at;
        }

        private int current() {
            return source == null ? Text.END : source.signAt(at, limit);
        }

        private boolean readExpression(int depth) {
            if (!readSum(depth)) {
                return false;
            }
            int sign = current();
            if (sign != '<' && sign != '>' && sign != '=') {
                return true;
            }
            at++;
            if (!readSum(depth)) {
                return false;
            }
            addSign(sign);
            return true;
        }

        private boolean readSum(int depth) {
            boolean fine = readProduct(depth);
            while (fine && at < limit && (current() == '+' || current() == '-')) {
                int sign = current();
                at++;
                fine = readProduct(depth);
                addSign(sign);
            }
            return fine;
        }

        private boolean readProduct(int depth) {
            boolean fine = readSigned(depth);
            while (fine && at < limit && (current() == '*' || current() == '/')) {
                int sign = current();
                at++;
                fine = readSigned(depth);
                addSign(sign);
            }
            return fine;
        }

        private boolean readSigned(int depth) {
            boolean less = false;
            while (at < limit && current() == '-') {
                at++;
                less = !less;
            }
            if (!readThing(depth)) {
                return false;
            }
            if (less) {
                addSign(NEGATE);
            }
            return true;
        }

        private boolean readThing(int depth) {
            int sign = current();
            if (isDigit(sign)) {
                readNumber();
                return true;
            }
            if (sign == '(') {
                return readBrackets(depth);
            }
            if (!isLetter(sign)) {
                return false;
            }
            addSign(sign);
            at++;
            return true;
        }

        private void readNumber() {
            int number = 0;
            for (int digits = 0; digits < MOST_DIGITS && isDigit(current()); digits++) {
                number = 10 * number + current() - '0';
                at++;
            }
            add(number);
        }

        private boolean readBrackets(int depth) {
            if (depth >= MOST_BRACKETS) {
                return false;
            }
            at++;
            if (!readExpression(depth + 1) || current() != ')') {
                return false;
            }
            at++;
            return true;
        }

        private static boolean isLetter(int sign) {
            switch (sign) {
                case 'a':
                case 't':
                case 'r':
                case 'h':
                case 'f':
                case 'i':
                case 'n':
                    return true;
                default:
                    return false;
            }
        }

        /** OFF of a player. */
        int off(Standing standing, int player) {
            height = 0;
            for (int i = 0; i < many && i < MOST_SIGNS; i++) {
                int step = steps[i];
                if (step >= 0) {
                    push(step);
                } else if (isLetter(-step)) {
                    push(standing.thing(-step, player));
                } else if (-step == NEGATE) {
                    push(-pop());
                } else {
                    int right = pop();
                    push(joined(-step, pop(), right));
                }
            }
            return Math.max(-MOST_OFF, Math.min(MOST_OFF, pop()));
        }

        private void push(int value) {
            if (height < MOST_SIGNS) {
                stack[height] = value;
                height++;
            }
        }

        private int pop() {
            if (height <= 0) {
                return 0;
            }
            height--;
            return stack[height];
        }

        private static int joined(int sign, int left, int right) {
            switch (sign) {
                case '+':
                    return left + right;
                case '-':
                    return left - right;
                case '*':
                    return left * right;
                case '/':
                    return right == 0 ? 0 : left / right;
                case '<':
                    return left < right ? 1 : 0;
                case '>':
                    return left > right ? 1 : 0;
                default:
                    return left == right ? 1 : 0;
            }
        }
    }

    /** PLAYERS, TURN and THROWS: all that undo() brings back. */
    private static final class Standing {
        private final Court ground;
        private final Path path;
        private final int[] numbers = new int[NUMBERS];

        Standing(Court ground, Path path) {
            this.ground = ground;
            this.path = path;
        }

        void clear() {
            for (int i = 0; i < NUMBERS; i++) {
                numbers[i] = 0;
            }
        }

        void copy(Standing other) {
            System.arraycopy(other.numbers, 0, numbers, 0, NUMBERS);
        }

        void saveTo(int[] store, int from) {
            if (from >= 0 && from <= store.length - NUMBERS) {
                System.arraycopy(numbers, 0, store, from, NUMBERS);
            }
        }

        void loadFrom(int[] store, int from) {
            if (from >= 0 && from <= store.length - NUMBERS) {
                System.arraycopy(store, from, numbers, 0, NUMBERS);
            }
        }

        int many() {
            return numbers[MANY];
        }

        int turn() {
            return numbers[TURN];
        }

        int throwsMade() {
            return numbers[THROWS];
        }

        boolean hasPlayer(int player) {
            return player >= 0 && player < many();
        }

        int of(int what, int player) {
            int at = what + player;
            return at >= 0 && at < NUMBERS ? numbers[at] : 0;
        }

        void put(int what, int player, int value) {
            int at = what + player;
            if (at >= 0 && at < NUMBERS) {
                numbers[at] = value;
            }
        }

        int total(int what) {
            int sum = 0;
            for (int player = 0; player < many(); player++) {
                sum += of(what, player);
            }
            return sum;
        }

        void addPlayer(int reach, int aim) {
            int player = many();
            if (player < MOST_PLAYERS) {
                put(REACH, player, reach);
                put(AIM, player, aim);
                numbers[MANY] = player + 1;
            }
        }

        int othersHouses(int player) {
            int set = 0;
            for (int other = 0; other < MOST_PLAYERS; other++) {
                set |= other == player ? 0 : numbers[HOUSES + other];
            }
            return set;
        }

        /** SQUARES that are no HOUSES: NOBODY is no player, so that all who own are others. */
        int nobodys() {
            return ground.allSquares() & ~othersHouses(NOBODY);
        }

        int ownerOf(int square) {
            for (int player = 0; player < many(); player++) {
                if ((of(HOUSES, player) & ground.bitOf(square)) != 0) {
                    return player;
                }
            }
            return NOBODY;
        }

        int goalOf(int player) {
            int barred = othersHouses(player);
            for (int square = of(PLACE, player); square < ground.squares(); square++) {
                if ((barred >> square & 1) == 0) {
                    return square;
                }
            }
            return ground.squares();
        }

        /** PLAYERS whose GOAL a SQUARE is. */
        int aimingAt(int square) {
            int set = 0;
            for (int player = 0; player < many(); player++) {
                set |= goalOf(player) == square ? 1 << player : 0;
            }
            return set;
        }

        /** ROWS that are FREE for a player, SQUARES of a set (a stone's, such as others might own) being barred, too. */
        int freeRows(int player, int barred) {
            return ground.rowsWith(ground.allSquares() & ~(othersHouses(player) | barred));
        }

        /** Whether a player, if his REACH were so, CAN HOP. */
        boolean canHop(int player, int barred, int reach) {
            int own = ground.rowsWith(of(HOUSES, player));
            return path.opens(ground.rows(), freeRows(player, barred), own, reach);
        }

        int trapsOf(int player, int reach) {
            int others = othersHouses(player);
            int set = 0;
            for (int square = 0; square < ground.squares(); square++) {
                int stone = ground.bitOf(square);
                if ((others & stone) == 0 && !canHop(player, stone, reach)) {
                    set |= stone;
                }
            }
            return set;
        }

        /** How many traps all others of a player have together. */
        int trapsOfOthers(int player) {
            int sum = 0;
            for (int other = 0; other < many(); other++) {
                if (other != player) {
                    sum += Integer.bitCount(trapsOf(other, of(REACH, other)));
                }
            }
            return sum;
        }

        /** What a letter of a rule says of a player. */
        int thing(int letter, int player) {
            switch (letter) {
                case 'a':
                    return of(AIM, player);
                case 't':
                    return goalOf(player);
                case 'r':
                    return ground.rowAt(goalOf(player));
                case 'h':
                    return Integer.bitCount(of(HOUSES, player));
                case 'f':
                    return of(FAULTS, player);
                case 'i':
                    return player;
                default:
                    return throwsMade() % 7;
            }
        }

        /** A THROW: whether it was no fault. */
        boolean makeThrow(Rule rule) {
            if (many() == 0) {
                return false;
            }
            int player = turn();
            boolean right = rule.off(this, player) == 0 && goesOn(player);
            if (!right) {
                put(FAULTS, player, Math.min(MOST_FAULTS, of(FAULTS, player) + 1));
                passTurn();
            }
            numbers[THROWS]++;
            return right;
        }

        /** A stone thrown rightly: whether the player hops through, and has his next PLACE. */
        boolean goesOn(int player) {
            int goal = goalOf(player);
            if (!ground.isSquare(goal) || !canHop(player, ground.bitOf(goal), of(REACH, player))) {
                return false;
            }
            put(PLACE, player, goal + 1);
            if (!ground.isSquare(goalOf(player))) {
                put(RIGHTS, player, Math.min(MOST_RIGHTS, of(RIGHTS, player) + 1));
                put(PLACE, player, 0);
            }
            return true;
        }

        void passTurn() {
            numbers[TURN] = turn() + 1 < many() ? turn() + 1 : 0;
        }

        /** One number for all that round() compares: 17 * 10 * 100 for each of 4 PLAYERS, 4 and 7 fit a long. */
        long mark() {
            long mark = throwsMade() % 7;
            mark = mark * MOST_PLAYERS + turn();
            for (int player = 0; player < many(); player++) {
                mark = mark * (Court.MOST_SQUARES + 1) + of(PLACE, player);
                mark = mark * (MOST_RIGHTS + 1) + of(RIGHTS, player);
                mark = mark * (MOST_FAULTS + 1) + of(FAULTS, player);
            }
            return mark;
        }

        /** How many PLAYERS are ahead of one in order. */
        int leadersOf(int player) {
            int many = 0;
            for (int other = 0; other < many(); other++) {
                many += isAhead(other, player) ? 1 : 0;
            }
            return many;
        }

        private boolean isAhead(int one, int other) {
            int better = owned(one) - owned(other);
            if (better == 0) {
                better = of(PLACE, one) - of(PLACE, other);
            }
            if (better == 0) {
                better = of(FAULTS, other) - of(FAULTS, one);
            }
            return better > 0 || better == 0 && one < other;
        }

        private int owned(int player) {
            return Integer.bitCount(of(HOUSES, player)) + of(RIGHTS, player);
        }
    }

    /** What undo() and again() bring back. */
    private static final class Past {
        private static final int STEPS = 12;
        private static final int KEPT = 2;

        private final int[] steps = new int[STEPS * NUMBERS];
        private final int[] kept = new int[KEPT * NUMBERS];
        private int keptSet;
        private int latest;
        private int many;

        void clear() {
            many = 0;
            keptSet = 0;
        }

        int many() {
            return many;
        }

        /** How all was ahead of an act; the thirteenth takes the place of the first. */
        void add(Standing standing) {
            latest = (latest + 1) % STEPS;
            standing.saveTo(steps, latest * NUMBERS);
            many = Math.min(STEPS, many + 1);
        }

        boolean bringBack(Standing standing) {
            if (many == 0) {
                return false;
            }
            standing.loadFrom(steps, latest * NUMBERS);
            latest = (latest + STEPS - 1) % STEPS;
            many--;
            return true;
        }

        boolean keepUnder(int i, Standing standing) {
            if (i < 0 || i >= KEPT) {
                return false;
            }
            standing.saveTo(kept, i * NUMBERS);
            keptSet |= 1 << i;
            return true;
        }

        boolean bringKept(int i, Standing standing) {
            if (i < 0 || i >= KEPT || (keptSet >> i & 1) == 0) {
                return false;
            }
            standing.loadFrom(kept, i * NUMBERS);
            many = 0;
            return true;
        }
    }

    /** What was heard of a player. */
    private static final class Clues {
        private static final int KINDS = 5;
        private static final int ROOM = 12;

        private final int[] whats = new int[ROOM];
        private final int[] values = new int[ROOM];
        private int many;

        void clear() {
            many = 0;
        }

        int many() {
            return many;
        }

        static int leastOf(int what) {
            return what == 0 ? 1 : 0;
        }

        static int mostOf(int what) {
            return what == 0 ? MOST_REACH : what == 3 ? 1 : 9;
        }

        boolean add(int what, int v) {
            if (many >= ROOM || what < 0 || what >= KINDS || v < leastOf(what) || v > mostOf(what)) {
                return false;
            }
            whats[many] = what;
            values[many] = v;
            many++;
            return true;
        }

        /** PLAYERS who fit all that was heard. */
        int fitting(Standing standing) {
            int set = 0;
            for (int player = 0; player < standing.many(); player++) {
                set |= fitsAll(standing, player) ? 1 << player : 0;
            }
            return set;
        }

        private boolean fitsAll(Standing standing, int player) {
            for (int i = 0; i < many && i < ROOM; i++) {
                if (!isSo(standing, player, whats[i], values[i])) {
                    return false;
                }
            }
            return true;
        }

        /** How many of a set of PLAYERS are left at most by an answer to a question. */
        static int leftAtMost(Standing standing, int set, int what, int v) {
            int all = Integer.bitCount(set);
            int so = 0;
            for (int player = 0; player < standing.many(); player++) {
                boolean asked = (set >> player & 1) != 0;
                so += asked && isSo(standing, player, what, v) ? 1 : 0;
            }
            return Math.max(so, all - so);
        }

        private static boolean isSo(Standing standing, int player, int what, int v) {
            switch (what) {
                case 0:
                    return standing.of(REACH, player) == v;
                case 1:
                    return standing.of(AIM, player) >= v;
                case 2:
                    return standing.goalOf(player) >= v;
                case 3:
                    return (standing.of(HOUSES, player) != 0) == (v == 1);
                default:
                    return standing.of(FAULTS, player) >= v;
            }
        }
    }

    /** What was seen of OFF, and the laws that fit it. */
    private static final class Sights {
        private static final int ROOM = 10;

        private final int[] thrown = new int[ROOM];
        private final int[] offs = new int[ROOM];
        private int many;

        void clear() {
            many = 0;
        }

        int many() {
            return many;
        }

        boolean add(int n, int v) {
            if (many >= ROOM || n < 0 || n > 6 || v < -1 || v > 1) {
                return false;
            }
            thrown[many] = n;
            offs[many] = v;
            many++;
            return true;
        }

        private static int offBy(int a, int b, int n) {
            return (n > a ? 1 : 0) - (n < b ? 1 : 0);
        }

        boolean fitLaw(int a, int b) {
            for (int i = 0; i < many && i < ROOM; i++) {
                if (offBy(a, b, thrown[i]) != offs[i]) {
                    return false;
                }
            }
            return true;
        }

        /** How many laws are left at most, whatever OFF is by n. */
        int leftAtMost(int n) {
            int most = 0;
            for (int off = -1; off <= 1; off++) {
                most = Math.max(most, left(n, off));
            }
            return most;
        }

        private int left(int n, int off) {
            int fitting = 0;
            for (int a = 0; a <= 6; a++) {
                for (int b = 0; b <= 6; b++) {
                    fitting += offBy(a, b, n) == off && fitLaw(a, b) ? 1 : 0;
                }
            }
            return fitting;
        }
    }
}
