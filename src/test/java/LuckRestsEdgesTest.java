import java.math.BigInteger;

/** Promises 40 to 45: each sentence that names an edge, by itself. */
public final class LuckRestsEdgesTest {
    public static void main(String[] args) {
        luckByTenths();
        luckOfNone();
        luckRefused();
        luckGoesOn();
        luckAlone();
        hitsOfAll();
        hitsRefused();
        dareByRows();
        dareOntoFreeRows();
        dareRefused();
        restsOfAll();
        lawOfThirty();
        lawRefused();
        yearsByNumber();
        yearsBySeed();
        yearsOfAim();
        yearsWithoutPlayers();
        Check.end("LuckRestsEdgesTest");
    }

    private static HopCourts made(String court, String players, String rule) {
        HopCourts x = Check.made(court, players);
        Check.due("rule " + rule, Check.rule(x, rule), 0);
        x.fits();
        return x;
    }

    private static void fraction(String what, HopCourts x, int answer, BigInteger upper, BigInteger lower) {
        BigInteger divisor = upper.gcd(lower);
        Check.due(what, x, answer, 0, upper.divide(divisor).longValueExact(), lower.divide(divisor).longValueExact());
    }

    /** 40: "by p tenths (0 .. 10) each time .. his next k THROWS (0 .. 8)"; Terms 2: "in lowest terms (0 by 1)". */
    private static void luckByTenths() {
        int[][] once = {{0, 1}, {1, 10}, {1, 5}, {3, 10}, {2, 5}, {1, 2}, {3, 5}, {7, 10}, {4, 5}, {9, 10}, {1, 1}};
        HopCourts x = made("1", "40", "0");
        for (int p = 0; p <= 10; p++) {
            Check.due("40: once by " + p, x, x.luck(0, 1, p), 0, once[p][0], once[p][1]);
            Check.due("40: none by " + p, x, x.luck(0, 0, p), 0, 1, 1);
        }
        for (int p = 0; p <= 10; p++) {
            HopCourts y = made("2122", "40", "0");
            for (int k = 0; k <= 8; k++) {
                fraction("40: " + k + " by " + p, y, y.luck(0, k, p), BigInteger.valueOf(p).pow(k), BigInteger.TEN.pow(k));
            }
        }
    }

    /** 40: "a GOAL that is no SQUARE: a fault", "and hops through, if he can". */
    private static void luckOfNone() {
        HopCourts x = Check.owned("2", 4, 3, 4, 0);
        Check.due("40: no GOAL", x, x.luck(1, 1, 10), 0, 0, 1);
        Check.due("40: no GOAL, 8", x, x.luck(1, 8, 10), 0, 0, 1);
        Check.due("40: no GOAL, none asked", x, x.luck(1, 0, 10), 0, 1, 1);
        Check.due("40: own HOUSES are GOALS", x, x.luck(0, 8, 10), 0, 1, 1);
        HopCourts y = made("1", "10", "0");
        Check.due("40: he can't hop", y, y.luck(0, 1, 10), 0, 0, 1);
        Check.due("40: he can't hop, none asked", y, y.luck(0, 0, 0), 0, 1, 1);
    }

    /** 40: "NONE: others." */
    private static void luckRefused() {
        HopCourts x = made("1", "40;40", "0");
        for (int wrong : new int[] {-1, Integer.MIN_VALUE, Integer.MAX_VALUE}) {
            Check.due("40: player", x, x.luck(wrong, 1, 1), -1, 2);
            Check.due("40: k", x, x.luck(0, wrong, 1), -1, 2);
            Check.due("40: p", x, x.luck(0, 1, wrong), -1, 2);
        }
        Check.due("40: player 2", x, x.luck(2, 1, 1), -1, 2);
        Check.due("40: k 9", x, x.luck(0, 9, 1), -1, 2);
        Check.due("40: p 11", x, x.luck(0, 1, 11), -1, 2);
        Check.due("40: no PLAYERS", new HopCourts().luck(0, 0, 0), -1);
    }

    /** 40: "PLACE, RIGHTS go on as they do; HOUSES stay". */
    private static void luckGoesOn() {
        // REACH 1 in 221: SQUARES 0 to 3 are right, 4 is not.
        HopCourts x = made("221", "10", "0");
        for (int k = 0; k <= 8; k++) {
            Check.due("40: " + k, x, x.luck(0, k, 10), 0, k <= 4 ? 1 : 0, 1);
        }
        x.plays(3);
        x.fits();
        for (int k = 0; k <= 8; k++) {
            Check.due("40: from PLACE 3 on, " + k, x, x.luck(0, k, 10), 0, k <= 1 ? 1 : 0, 1);
        }
        // The last ROW is another one's: his round is 4 SQUARES long, and REACH 2 comes over it.
        HopCourts y = Check.owned("221", 2, 0, 4, 16);
        for (int k = 0; k <= 8; k++) {
            Check.due("40: round, " + k, y, y.luck(0, k, 10), 0, 1, 1);
        }
        Check.due("40: nothing has changed", y.player(0, 2), 0);
        // By REACH 2 a stone in ROW 1 beside another one's HOUSE, ahead of another one's ROW, is too much: the fourth.
        HopCourts z = Check.owned("221", 2, 0, 4, 4 + 16);
        for (int k = 0; k <= 8; k++) {
            Check.due("40: the third, " + k, z, z.luck(0, k, 10), 0, k <= 2 ? 1 : 0, 1);
        }
        HopCourts nine = made("1", "40", "0");
        nine.plays(9);
        Check.due("40: RIGHTS 9 are no fault", nine, nine.luck(0, 8, 10), 0, 1, 1);
    }

    /** "A player throws rightly by p tenths": neither THE RULE nor TURN matters. */
    private static void luckAlone() {
        HopCourts x = made("1", "40;40", "1");
        Check.due("40: THE RULE says OFF 1", x, x.luck(0, 3, 10), 0, 1, 1);
        Check.due("40: not his TURN", x, x.luck(1, 3, 5), 0, 1, 8);
    }

    /** 41: "just m of the next k THROWS (0 .. 8; m 0 .. k)". */
    private static void hitsOfAll() {
        for (int k = 0; k <= 8; k++) {
            HopCourts x = new HopCourts();
            for (int m = 0; m <= k; m++) {
                long choices = 1;
                for (int i = 0; i < m; i++) {
                    choices = choices * (k - i) / (i + 1);
                }
                for (int p = 0; p <= 10; p++) {
                    BigInteger upper = BigInteger.valueOf(choices).multiply(BigInteger.valueOf(p).pow(m))
                        .multiply(BigInteger.valueOf(10 - p).pow(k - m));
                    fraction("41: " + m + " of " + k + " by " + p, x, x.hits(k, m, p), upper, BigInteger.TEN.pow(k));
                }
            }
        }
        HopCourts shut = made("1", "10", "0");
        Check.due("41: hopping is never a fault", shut, shut.hits(8, 8, 10), 0, 1, 1);
    }

    /** 41: "NONE: others." */
    private static void hitsRefused() {
        HopCourts x = new HopCourts();
        x.rests(18);
        for (int wrong : new int[] {-1, Integer.MIN_VALUE, Integer.MAX_VALUE}) {
            Check.due("41: k", x, x.hits(wrong, 0, 1), -1, 9, 9);
            Check.due("41: k and m", x, x.hits(wrong, wrong, 1), -1, 9, 9);
            Check.due("41: m", x, x.hits(3, wrong, 1), -1, 9, 9);
            Check.due("41: p", x, x.hits(3, 1, wrong), -1, 9, 9);
        }
        Check.due("41: k 9", x, x.hits(9, 0, 1), -1, 9, 9);
        for (int k = 0; k <= 8; k++) {
            Check.due("41: m above k", x, x.hits(k, k + 1, 1), -1, 9, 9);
        }
        Check.due("41: p 11", x, x.hits(3, 1, 11), -1, 9, 9);
    }

    /** 42: all ROWS being FREE, who leaves a multiple of k and 1 to BEYOND wins. */
    private static void dareByRows() {
        for (int rows = 1; rows <= 8; rows++) {
            HopCourts x = made("11111111".substring(0, rows), "10", "0");
            for (int k = 1; k <= 8; k++) {
                int on = (rows + 1) % (k + 1);
                String what = "42: " + rows + " ROWS by " + k;
                if (on == 0) {
                    Check.due(what, x, x.dare(0, k), 0);
                } else {
                    // The ROW is one less than how far he hops; BEYOND is told by how many ROWS there are.
                    Check.due(what, x, x.dare(0, k), 1, on - 1);
                }
            }
        }
    }

    /** 42: "onto ROWS that are FREE for a player (no stone)", "who can't go on has lost". */
    private static void dareOntoFreeRows() {
        HopCourts first = Check.owned("11", 4, 0, 4, 1);
        Check.due("42: he can't go on", first, first.dare(0, 1), 0);
        Check.due("42: ROW 1 alone, then the other one wins", first, first.dare(0, 2), 0);
        Check.due("42: BEYOND at once", first, first.dare(0, 3), 1, 2);
        Check.due("42: for the owner it is free", first, first.dare(1, 2), 0);
        Check.due("42: by 1 he lands on it", first, first.dare(1, 1), 1, 0);
        HopCourts last = Check.owned("11", 4, 0, 4, 2);
        Check.due("42: the other one can't go on", last, last.dare(0, 1), 1, 0);
        Check.due("42: the other one comes BEYOND", last, last.dare(0, 2), 0);
        HopCourts all = Check.owned("11111111", 4, 0, 4, 255);
        for (int k = 1; k <= 7; k++) {
            Check.due("42: no ROW is free", all, all.dare(0, k), 0);
        }
        Check.due("42: 8 is one less than BEYOND", all, all.dare(0, 8), 0);
        all.leaves(1, 7);
        Check.due("42: ROW 7, then BEYOND is the other one's", all, all.dare(0, 8), 0);
        HopCourts seven = Check.owned("1111111", 4, 0, 4, 127);
        Check.due("42: 8 come BEYOND", seven, seven.dare(0, 8), 1, 7);
        HopCourts half = Check.owned("22", 4, 0, 4, 1);
        Check.due("42: half a ROW is free", half, half.dare(0, 1), 1, 0);
        // REACH does not matter, nor a HOUSE of his own.
        HopCourts own = Check.owned("111", 1, 1, 4, 0);
        Check.due("42: by k alone", own, own.dare(0, 3), 0);
        own.grows(0, 4);
        Check.due("42: by k alone", own, own.dare(0, 3), 0);
    }

    /** 42: "NONE: others." */
    private static void dareRefused() {
        HopCourts x = made("1", "40;40", "0");
        for (int k : new int[] {0, -1, 9, Integer.MIN_VALUE, Integer.MAX_VALUE}) {
            Check.due("42: k " + k, x, x.dare(0, k), -1, 2);
        }
        for (int player : new int[] {-1, 2, Integer.MIN_VALUE, Integer.MAX_VALUE}) {
            Check.due("42: player " + player, x, x.dare(player, 1), -1, 2);
        }
        Check.due("42: no PLAYERS", new HopCourts().dare(0, 1), -1);
    }

    /** 43: by trying: what one has, by 3 for each of its own, 2 less for each of the other one's, 1 more for fewer. */
    private static int has(int own, int other, int room) {
        return 3 * own - (own + other > room ? 2 * other : 0) + (own < other ? 1 : 0);
    }

    /** 43: "Pairs by which neither would have more by another number alone: how many; .. the least (nothing without)". */
    private static void restsOfAll() {
        for (int v = 0; v <= 18; v++) {
            int pairs = 0;
            int least = -1;
            for (int pair = 99; pair >= 0; pair--) {
                int x = pair / 10;
                int y = pair % 10;
                boolean rests = true;
                for (int other = 0; other <= 9; other++) {
                    rests &= has(other, y, v) <= has(x, y, v) && has(other, x, v) <= has(y, x, v);
                }
                pairs += rests ? 1 : 0;
                least = rests ? pair : least;
            }
            HopCourts x = new HopCourts();
            x.hits(0, 0, 0);
            if (pairs > 0) {
                Check.due("43: " + v, x, x.rests(v), pairs, least / 10, least % 10);
            } else {
                Check.due("43: " + v, x, x.rests(v), 0);
            }
        }
        HopCourts x = new HopCourts();
        x.hits(0, 0, 0);
        for (int v : new int[] {-1, 19, Integer.MIN_VALUE, Integer.MAX_VALUE}) {
            Check.due("43: another v", x, x.rests(v), -1, 1, 1);
        }
        Check.due("43: room for none", x, x.rests(0), 1, 9, 9);
        Check.due("43: room for all", x, x.rests(18), 1, 9, 9);
    }

    /** 44: "how many of the next 30 THROWS are no faults by it, less by THE RULE (below 0, too)". */
    private static void lawOfThirty() {
        HopCourts x = made("1", "40", "0");
        Check.due("44: all and none", x, Check.law(x, "1"), -30, 0, 30, 30, 0);
        Check.rule(x, "1");
        Check.due("44: none and all", x, Check.law(x, "0"), 30, 30, 0, 0, 30);
        Check.due("44: as it is", x, Check.law(x, "1"), 0, 0, 0, 30, 30);
        x.plays(4);
        Check.due("44: FAULTS of all then", x, Check.law(x, "0"), 30, 30, 0, 4, 34);
        x.plays(60);
        x.plays(30);
        Check.due("44: 99 at most", x, Check.law(x, "2"), 0, 0, 0, 99, 99);
        Check.due("44: nothing is thrown", x.count(4), 94);
        // By f<29 29 faults, then one right one; by f<30 none.
        HopCourts y = made("1", "40", "f<30");
        Check.due("44: the thirtieth", y, Check.law(y, "f<29"), 1, 1, 0, 29, 30);
        HopCourts two = made("1", "40;40", "i");
        Check.due("44: FAULTS of all", two, Check.law(two, "1"), -30, 0, 30, 30, 0);
    }

    /** 44: "-2: no PLAYERS (asked behind THE TEXT). -10000 - p: the sign at p can't stand there". */
    private static void lawRefused() {
        HopCourts none = new HopCourts();
        none.rests(18);
        Check.due("44: no PLAYERS", none, Check.law(none, "0"), -2, 9, 9);
        Check.due("44: no PLAYERS, an empty one", none, Check.law(none, ""), -2, 9, 9);
        Check.due("44: THE TEXT first", none, Check.law(none, "x"), -10000, 9, 9);
        Check.due("44: THE TEXT first", none, Check.law(none, "(1"), -10002, 9, 9);
        Check.due("44: THE TEXT is empty", none.count(11), 0);
        HopCourts x = made("1", "40", "2");
        Check.due("44: 41 signs", x, Check.law(x, "-".repeat(40) + "1"), -10040, 1);
        Check.due("44: at 0", x, Check.law(x, "+"), -10000, 1);
        Check.due("44: THE RULE stays", x.player(0, 7), 12);
        Check.due("44: THE TEXT is empty", x.count(11), 0);
    }

    /** 45: "n times (1 .. 60) .. NONE: another n". */
    private static void yearsByNumber() {
        HopCourts x = made("1", "40", "0");
        for (int n : new int[] {0, -1, 61, Integer.MIN_VALUE, Integer.MAX_VALUE}) {
            Check.due("45: n " + n, x, x.years(7, n), -1, 1);
        }
        for (int n : new int[] {1, 2, 59, 60}) {
            Check.due("45: n " + n, x, x.years(7, n), throwsDrawn(7, n), 0, 0);
        }
    }

    private static int throwsDrawn(int seed, int n) {
        long r = seed & 0xFFFFFFFFL;
        int made = 0;
        for (int i = 0; i < n; i++) {
            r = (r * 1103515245L + 12345L) % 4294967296L;
            if (r / 65536 % 4 == 3) {
                r = (r * 1103515245L + 12345L) % 4294967296L;
                r = (r * 1103515245L + 12345L) % 4294967296L;
            } else {
                made++;
            }
        }
        return made;
    }

    /** 45: "R = R times 1103515245 + 12345 (as ints; R is seed at first), (R without sign, by 65536) % n". */
    private static void yearsBySeed() {
        int[] seeds = {0, 1, -1, 2, 12345, Integer.MAX_VALUE, Integer.MIN_VALUE, -1103515245, 99999999};
        for (int seed : seeds) {
            HopCourts x = made("1", "40", "0");
            Check.due("45: by " + seed, x, x.years(seed, 60), throwsDrawn(seed, 60), 0, 0);
            HopCourts all = made("1", "40;40;40", "1");
            int made = throwsDrawn(seed, 60);
            Check.due("45: faults by " + seed, all, all.years(seed, 60), 0, made, made % 3);
        }
        HopCourts later = made("1", "40;40", "1");
        later.plays(3);
        int made = throwsDrawn(5, 9);
        Check.due("45: FAULTS and TURN go on", later, later.years(5, 9), 0, 3 + made, (3 + made) % 2);
        Check.due("45: nothing has changed", later.count(4), 3);
        Check.due("45: the same once more", later, later.years(5, 9), 0, 3 + made, (3 + made) % 2);
    }

    /** 45: "3: a DRAW of PLAYERS one, a DRAW of 10 his AIM then". */
    private static void yearsOfAim() {
        for (int many = 1; many <= 4; many++) {
            for (int seed = 1; seed <= 20; seed++) {
                HopCourts x = made("1", "40;40;40;40".substring(0, 3 * many - 1), "a>4");
                int[] aims = new int[many];
                int turn = 0;
                int faults = 0;
                int right = 0;
                long r = seed;
                for (int i = 0; i < 60; i++) {
                    r = (r * 1103515245L + 12345L) % 4294967296L;
                    if (r / 65536 % 4 != 3) {
                        right += aims[turn] > 4 ? 0 : 1;
                        faults += aims[turn] > 4 ? 1 : 0;
                        turn = aims[turn] > 4 ? (turn + 1) % many : turn;
                    } else {
                        r = (r * 1103515245L + 12345L) % 4294967296L;
                        int player = (int) (r / 65536 % many);
                        r = (r * 1103515245L + 12345L) % 4294967296L;
                        aims[player] = (int) (r / 65536 % 10);
                    }
                }
                Check.due("45: " + many + " by " + seed, x, x.years(seed, 60), right, faults, turn);
                Check.due("45: AIM stays", x.player(0, 1), 0);
            }
        }
    }

    /** 45: "both 0 without PLAYERS". */
    private static void yearsWithoutPlayers() {
        HopCourts x = new HopCourts();
        x.rests(18);
        Check.due("45: NONE", x, x.years(1, 0), -1, 9, 9);
        Check.due("45: NONE", x, x.years(1, 61), -1, 9, 9);
        for (int n : new int[] {1, 60}) {
            x.rests(18);
            Check.due("45: without PLAYERS", x, x.years(-1, n), 0, 0, 0);
        }
    }
}
