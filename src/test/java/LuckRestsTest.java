/** Promises 40 to 45: luck, a dare, rests, another rule, years. */
public final class LuckRestsTest {
    public static void main(String[] args) {
        luck();
        hits();
        dare();
        rests();
        law();
        years();
        Check.end("LuckRestsTest");
    }

    private static void luck() {
        HopCourts x = Check.made("121", "13;25");
        x.fits();
        int[][] wrong = {{2, 0, 0}, {-1, 0, 0}, {0, -1, 0}, {0, 9, 0}, {0, 0, -1}, {0, 0, 11}};
        for (int[] w : wrong) {
            Check.due("wrong", x, x.luck(w[0], w[1], w[2]), -1, 2);
        }
        Check.due("2 by 5", x, x.luck(1, 2, 5), 0, 1, 4);
        Check.due("3 by 7", x, x.luck(1, 3, 7), 0, 343, 1000);
        Check.due("8 by 9", x, x.luck(1, 8, 9), 0, 43046721, 100000000);
        Check.due("8 by 10", x, x.luck(1, 8, 10), 0, 1, 1);
        Check.due("8 by 2", x, x.luck(1, 8, 2), 0, 1, 390625);
        Check.due("1 by 0", x, x.luck(1, 1, 0), 0, 0, 1);
        Check.due("0 by 0", x, x.luck(1, 0, 0), 0, 1, 1);
        Check.due("he can't hop", x, x.luck(0, 1, 10), 0, 0, 1);
        Check.due("nothing has changed", x.player(1, 2) + x.player(1, 6), 0);
        // REACH 1 hops round a stone in ROW 0 (two SQUARES), not in ROW 1.
        HopCourts y = Check.made("21", "10;30");
        Check.due("two are right", y, y.luck(0, 2, 5), 0, 1, 4);
        Check.due("the third is not", y, y.luck(0, 3, 5), 0, 0, 1);
        Check.rule(y, "i=0");
        Check.due("the rule does not matter", y, y.luck(0, 2, 4), 0, 4, 25);
        y.passes();
        y.plays(9);
        y.takes(1, 0);
        y.takes(1, 1);
        y.takes(1, 2);
        Check.due("no goal", y, y.luck(0, 1, 10), 0, 0, 1);
        Check.due("no throw is asked", y, y.luck(0, 0, 10), 0, 1, 1);
    }

    private static void hits() {
        HopCourts x = new HopCourts();
        x.fits();
        int[][] wrong = {{-1, 0, 0}, {9, 0, 0}, {2, 3, 0}, {2, -1, 0}, {2, 1, -1}, {2, 1, 11}};
        for (int[] w : wrong) {
            Check.due("wrong", x, x.hits(w[0], w[1], w[2]), -1, 0);
        }
        Check.due("2, 1 by 5", x, x.hits(2, 1, 5), 0, 1, 2);
        Check.due("8, 4 by 5", x, x.hits(8, 4, 5), 0, 35, 128);
        Check.due("4, 1 by 3", x, x.hits(4, 1, 3), 0, 1029, 2500);
        Check.due("8, 8 by 10", x, x.hits(8, 8, 10), 0, 1, 1);
        Check.due("8, 7 by 10", x, x.hits(8, 7, 10), 0, 0, 1);
        Check.due("8, 0 by 0", x, x.hits(8, 0, 0), 0, 1, 1);
        Check.due("8, 1 by 0", x, x.hits(8, 1, 0), 0, 0, 1);
        Check.due("8, 0 by 1", x, x.hits(8, 0, 1), 0, 43046721, 100000000);
        Check.due("8, 3 by 7", x, x.hits(8, 3, 7), 0, 56 * 343 * 243 / 8, 100000000 / 8);
        Check.due("0, 0", x, x.hits(0, 0, 3), 0, 1, 1);
    }

    private static void dare() {
        HopCourts x = Check.made("121", "13;25");
        x.fits();
        int[][] wrong = {{2, 1}, {-1, 1}, {0, 0}, {0, 9}};
        for (int[] w : wrong) {
            Check.due("wrong", x, x.dare(w[0], w[1]), -1, 2);
        }
        Check.due("by 1", x, x.dare(0, 1), 0);
        Check.due("by 2", x, x.dare(0, 2), 1, 0);
        Check.due("by 3", x, x.dare(0, 3), 0);
        Check.due("by 4: BEYOND", x, x.dare(0, 4), 1, 3);
        Check.due("by 8", x, x.dare(0, 8), 1, 3);
        // Player 1 owns ROW 0: by 1 player 0 can't go on; by 2 from ROW 1 the other comes BEYOND.
        HopCourts y = Check.made("121", "20;20");
        Check.rule(y, "0");
        y.passes();
        y.plays(4);
        y.takes(1, 0);
        Check.due("who can't go on has lost", y, y.dare(0, 1), 0);
        Check.due("by 2", y, y.dare(0, 2), 0);
        Check.due("own houses are free", y, y.dare(1, 2), 1, 0);
        HopCourts z = Check.made("11111", "20");
        Check.due("6 by 2", z, z.dare(0, 2), 0);
        Check.due("6 by 3: to the fourth from the end", z, z.dare(0, 3), 1, 1);
        HopCourts w = Check.made("1111", "20;20");
        Check.rule(w, "0");
        w.passes();
        w.plays(8);
        w.takes(1, 1);
        w.takes(1, 3);
        // Free are ROWS 0 and 2: from ROW 2 by 1 nobody goes on; so ROW 0 by 1 is won, too.
        Check.due("stuck behind ROW 0", w, w.dare(0, 1), 1, 0);
        Check.due("by 2 the others go on", w, w.dare(0, 2), 1, 0);
    }

    private static void rests() {
        HopCourts x = new HopCourts();
        x.fits();
        Check.due("v -1", x, x.rests(-1), -1, 0);
        Check.due("v 19", x, x.rests(19), -1, 0);
        for (int v = 0; v <= 18; v++) {
            long[] due = restsDue(v);
            if (due[0] == 0) {
                Check.due("rests " + v, x, x.rests(v), 0);
            } else {
                Check.due("rests " + v, x, x.rests(v), due[0], due[1], due[2]);
            }
        }
        Check.due("room for all", x, x.rests(18), 1, 9, 9);
    }

    /** How many pairs rest, and the least one, by trying all that both could do. */
    private static long[] restsDue(int v) {
        long[] due = {0, 0, 0};
        for (int pair = 99; pair >= 0; pair--) {
            int x = pair / 10;
            int y = pair % 10;
            boolean rests = true;
            for (int other = 0; other <= 9; other++) {
                rests &= worth(other, y, v) <= worth(x, y, v) && worth(other, x, v) <= worth(y, x, v);
            }
            if (rests) {
                due = new long[] {due[0] + 1, x, y};
            }
        }
        return due;
    }

    private static int worth(int mine, int yours, int v) {
        int worth = 3 * mine;
        if (mine + yours > v) {
            worth -= 2 * yours;
        }
        if (mine < yours) {
            worth++;
        }
        return worth;
    }

    private static void law() {
        HopCourts none = new HopCourts();
        none.fits();
        Check.due("no players", none, Check.law(none, "1"), -2, 0);
        Check.due("no players, no text", none, Check.law(none, ""), -2, 0);
        Check.due("THE TEXT first", none, Check.law(none, "1+"), -10002, 0);
        Check.due("the text is gone", none.count(11), 0);
        HopCourts x = Check.made("121", "13;25");
        Check.due("0", x, Check.law(x, "0"), 8, 29, 21, 1, 9);
        Check.due("the text is gone", x.count(11), 0);
        Check.due("none", x, Check.law(x, ""), 0, 21, 21, 9, 9);
        Check.due("n>a", x, Check.law(x, "n>a"), 0, 21, 21, 9, 9);
        Check.due("below 0", x, Check.law(x, "1"), -21, 0, 21, 30, 9);
        Check.due("wrong", x, Check.law(x, "z"), -10000, 0, 21, 30, 9);
        Check.due("41 signs", x, Check.law(x, "1+1+1+1+1+1+1+1+1+1+1+1+1+1+1+1+1+1+1+1+1"), -10040, 0, 21, 30, 9);
        Check.due("THE RULE stays", x.player(0, 7), 10);
        Check.due("nothing has changed", x.count(4) + x.count(5), 0);
        Check.rule(x, "0");
        Check.due("less by THE RULE", x, Check.law(x, ""), -8, 21, 29, 9, 1);
        Check.due("THE RULE stays behind a wrong one", Check.law(x, "1+"), -10002);
        Check.due("THE RULE stays behind a wrong one", x.player(0, 7), 10);
    }

    private static void years() {
        HopCourts none = new HopCourts();
        none.rests(0);
        Check.due("n 0", none, none.years(1, 0), -1, 9, 9);
        Check.due("n 61", none, none.years(1, 61), -1, 9, 9);
        Check.due("no players", none, none.years(1, 60), 0, 0, 0);
        HopCourts alone = Check.made("2", "10");
        Check.rule(alone, "0");
        Check.due("one player", alone, alone.years(1, 4), yearsAlone(1, 4), 0, 0);
        Check.due("one player, 30 times", alone, alone.years(1, 30), yearsAlone(1, 30), 0, 0);
        for (int seed = -40; seed <= 40; seed++) {
            yearsBySeed(seed * 77777777, 1 + Math.floorMod(seed, 60));
        }
    }

    /** How many THROWS are drawn, if there is one player. */
    private static int yearsAlone(int seed, int n) {
        int r = seed;
        int made = 0;
        for (int i = 0; i < n; i++) {
            r = r * 1103515245 + 12345;
            if ((r >>> 16) % 4 == 3) {
                r = (r * 1103515245 + 12345) * 1103515245 + 12345;
            } else {
                made++;
            }
        }
        return made;
    }

    /** Another object goes through the same by throwsOne() and rules that tell AIMS. */
    private static void yearsBySeed(int seed, int n) {
        HopCourts x = Check.made("121", "13;25;21");
        HopCourts y = Check.made("121", "13;25;21");
        int[] aims = {3, 5, 1};
        long r = seed;
        int right = 0;
        for (int i = 0; i < n; i++) {
            r = (int) (r * 1103515245L + 12345L);
            if ((r & 0xFFFFFFFFL) / 65536 % 4 != 3) {
                right += y.throwsOne();
            } else {
                r = (int) (r * 1103515245L + 12345L);
                int player = (int) ((r & 0xFFFFFFFFL) / 65536 % 3);
                r = (int) (r * 1103515245L + 12345L);
                aims[player] = (int) ((r & 0xFFFFFFFFL) / 65536 % 10);
                setAims(y, aims);
            }
        }
        Check.due("years by " + seed, x, x.years(seed, n), right, y.count(5), y.count(3));
        Check.due("a question changes nothing", x.count(4) + x.count(5) + x.count(9), 0);
        Check.due("AIMS stay", x.player(0, 1) * 100 + x.player(1, 1) * 10 + x.player(2, 1), 351);
    }

    /** A sheet tells f, f + step, .. alone, so that any three AIMS are told by a rule of their own. */
    private static void setAims(HopCourts y, int[] aims) {
        StringBuilder rule = new StringBuilder();
        for (int i = 0; i < 3; i++) {
            rule.append(i == 0 ? "n>(" : "+").append("(i=").append(i).append(")*").append(aims[i]);
        }
        Check.due("aims", Check.rule(y, rule.append(")").toString()), 0);
    }
}
