/** Promises 18 to 26: hopping through, houses. */
public final class HoppingTest {
    public static void main(String[] args) {
        hop();
        ways();
        traps();
        needs();
        gap();
        gates();
        shuts();
        best();
        houses();
        Check.end("HoppingTest");
    }

    /** Court 12111, player 0 (REACH 2) owns SQUARE 4 (ROW 3), player 1 (REACH 1) owns SQUARES 0 and 2. */
    private static HopCourts owned() {
        HopCourts x = Check.made("12111", "20;40");
        Check.rule(x, "0");
        x.plays(6);
        x.passes();
        x.plays(12);
        x.takes(0, 4);
        x.takes(1, 0);
        x.takes(1, 2);
        x.grows(1, 1);
        Check.due("player 0 owns", x.player(0, 4), 16);
        Check.due("player 1 owns", x.player(1, 4), 5);
        x.fits();
        return x;
    }

    private static void hop() {
        HopCourts x = owned();
        Check.due("none such", x, x.hop(2, 0), -1, 2);
        Check.due("none such", x, x.hop(-1, 0), -1, 2);
        Check.due("another s", x, x.hop(0, -1), -1, 2);
        Check.due("another s", x, x.hop(0, 7), -1, 2);
        // ROW 0 is player 1's; ROW 1 has SQUARE 1 left; from ROW 3 he hops one farther.
        Check.due("no stone", x, x.hop(0, 6), 3, 1, 3);
        Check.due("stone in 5", x, x.hop(0, 5), 3, 1, 3);
        Check.due("stone in 3", x, x.hop(0, 3), 3, 1, 3);
        Check.due("stone in 4: ROW 3 is not free", x, x.hop(0, 4), 4, 1, 2, 4);
        Check.due("stone in 0, another one's", x, x.hop(0, 0), 3, 1, 3);
        Check.due("stone in 1", x, x.hop(0, 1), -2, 1, 3);
        // Player 1 hops one on, two from his own: ROW 3 is player 0's.
        Check.due("player 1", x, x.hop(1, 6), -2, 1, 3);
        x.grows(1, 2);
        Check.due("player 1 by 2", x, x.hop(1, 6), 3, 1, 4);
        Check.due("player 1 by 2, stone in 5: BEYOND from ROW 2 is too far", x, x.hop(1, 5), -2, 1, 4);
        HopCourts y = Check.made("11", "30;20;10");
        Check.due("at once", y, y.hop(0, 2), 1);
        Check.due("the least row", y, y.hop(1, 2), 2, 0);
        Check.due("one by one", y, y.hop(2, 2), 3, 0, 1);
        HopCourts z = Check.made("11111111", "30;40");
        Check.due("of as few the least", z, z.hop(0, 8), 3, 2, 5);
        Check.due("by 4", z, z.hop(1, 8), 3, 0, 4);
        Check.due("by 4, stone in 0", z, z.hop(1, 0), 3, 1, 4);
    }

    private static void ways() {
        HopCourts x = owned();
        Check.due("none such", x, x.ways(2, 0), -1, 2);
        Check.due("another s", x, x.ways(0, 7), -1, 2);
        Check.due("another s", x, x.ways(0, -1), -1, 2);
        // ROWS 1, 2, 3, 4: from ROW 1 to 2 or 3, from 2 to 3 or 4, from 3 to 4 or BEYOND, from 4 BEYOND.
        Check.due("no stone", x, x.ways(0, 6), 5, 4, 2);
        Check.due("stone in 5", x, x.ways(0, 5), 2, 3, 2);
        Check.due("none", x, x.ways(0, 1), 0);
        HopCourts y = Check.made("1", "20;10");
        Check.due("at once, too", y, y.ways(0, 1), 2, 1, 0);
        Check.due("at once alone", y, y.ways(0, 0), 1, 0, 0);
        Check.due("by 1", y, y.ways(1, 1), 1, 1, 1);
        HopCourts z = Check.made("11111111", "10;20;30;40");
        Check.due("by 1", z, z.ways(0, 8), 1, 8, 8);
        Check.due("by 2", z, z.ways(1, 8), 55, 8, 4);
        Check.due("by 3", z, z.ways(2, 8), 149, 8, 2);
        Check.due("by 4", z, z.ways(3, 8), 208, 8, 2);
    }

    private static void traps() {
        HopCourts x = owned();
        Check.due("none such", x, x.traps(2), -1, 2);
        Check.due("none such", x, x.traps(-1), -1, 2);
        Check.due("player 0", x, x.traps(0), 2, 1);
        Check.due("player 1: all but 4", x, x.traps(1), 1 + 2 + 4 + 8 + 32, 5);
        HopCourts y = Check.made("1212", "10");
        Check.due("by 1", y, y.traps(0), 1 + 8, 2);
        y.grows(0, 2);
        Check.due("by 2", y, y.traps(0), 0, 0);
    }

    private static void needs() {
        HopCourts x = owned();
        Check.due("none such", x, x.needs(2), -1, 2);
        // Stone in 1: ROWS 0 and 1 are barred, so 3 from START.
        Check.due("player 0", x, x.needs(0), 3, 1);
        // Player 1, stone in 5: from ROW 2 to BEYOND over two barred ROWS is 3 (from his ROW 1 to ROW 4 he hops by 2).
        Check.due("player 1", x, x.needs(1), 3, 1);
        HopCourts y = Check.made("22", "40");
        Check.due("1", y, y.needs(0), 1, 0);
        HopCourts z = Check.made("1", "40");
        Check.due("2", z, z.needs(0), 2, 1);
        // All eight ROWS are another one's but for none: no SQUARE is left that could be a trap.
        HopCourts w = allOwned();
        Check.due("no square left", w, w.needs(1), 1, 0);
        w.leaves(0, 7);
        Check.due("8 barred, a stone in the last", w, w.needs(1), 9, 1);
    }

    /** Court of eight ROWS of one SQUARE, all of them HOUSES of player 0. */
    private static HopCourts allOwned() {
        HopCourts x = Check.made("11111111", "40;40");
        Check.rule(x, "0");
        x.plays(60);
        x.plays(4);
        for (int i = 0; i < 8; i++) {
            Check.due("taken", x.takes(0, i), i + 1);
        }
        return x;
    }

    private static void gap() {
        HopCourts x = owned();
        Check.due("none such", x, x.gap(2), -1, 2);
        Check.due("player 0: ROW 0", x, x.gap(0), 1, 0);
        Check.due("player 1: ROW 3", x, x.gap(1), 1, 3);
        HopCourts w = allOwned();
        Check.due("none", w, w.gap(0), 0);
        Check.due("all", w, w.gap(1), 8, 0);
        w.leaves(0, 3);
        Check.due("the longest", w, w.gap(1), 4, 4);
        w.leaves(0, 7);
        Check.due("of as long ones the first", w, w.gap(1), 3, 0);
    }

    private static void gates() {
        HopCourts x = owned();
        Check.due("none such", x, x.gates(2), -1, 2);
        Check.due("player 0: SQUARE 1", x, x.gates(0), 2, 1);
        Check.due("player 1 can't as it is", x, x.gates(1), 2 + 8 + 32, 3);
        HopCourts y = Check.made("1212", "10;20");
        Check.due("by 1", y, y.gates(0), 1 + 8, 2);
        Check.due("by 2", y, y.gates(1), 0, 0);
        HopCourts w = allOwned();
        Check.due("no square is nobody's", w, w.gates(1), 0, 0);
    }

    private static void shuts() {
        HopCourts x = owned();
        Check.due("none such", x, x.shuts(2), -1, 2);
        Check.due("player 0", x, x.shuts(0), 1, 2);
        Check.due("player 1 is shut out", x, x.shuts(1), 0, 0);
        HopCourts y = Check.made("2122", "10;20;30;40");
        Check.due("by 1", y, y.shuts(0), 1, 4);
        Check.due("by 2", y, y.shuts(1), 3, 1 + 2 + 4);
        Check.due("by 3", y, y.shuts(2), 5, 31);
        Check.due("by 4", y, y.shuts(3), 7, 127);
        HopCourts z = Check.made("112", "20;30;40");
        Check.due("of as few the least", z, z.shuts(0), 2, 3);
        Check.due("by 3", z, z.shuts(1), 4, 15);
        z.fits();
        Check.due("by none", z, z.shuts(2), -2, 3);
        HopCourts w = allOwned();
        w.fits();
        Check.due("own houses stay free", w, w.shuts(0), -2, 2);
    }

    private static void best() {
        HopCourts x = Check.made("121", "13;25;10");
        x.fits();
        Check.due("none such", x, x.best(3), -1, 3);
        Check.due("none such", x, x.best(-1), -1, 3);
        // By SQUARE 0 or 3 player 0 and player 2 (REACH 1) have 3 traps each, now 2 each.
        Check.due("player 1", x, x.best(1), 0, 6, 4);
        // Were 1 player 0's, 2 would be a trap of player 2 besides 0 and 3; player 1 hops by 2.
        Check.due("player 0", x, x.best(0), 0, 3, 2);
        HopCourts y = Check.made("2112", "20;30");
        Check.due("SQUARE 2: the stone in 3 is too much", y, y.best(1), 2, 1, 0);
        HopCourts alone = Check.made("11", "40");
        Check.due("without others", alone, alone.best(0), 0, 0, 0);
        HopCourts w = allOwned();
        w.fits();
        Check.due("no square is nobody's", w, w.best(0), -2, 2);
        w.leaves(0, 5);
        Check.due("the only one", w, w.best(0), 5, 0, 1);
    }

    private static void houses() {
        HopCourts none = new HopCourts();
        Check.due("no players", none, none.houses(), 0);
        HopCourts x = owned();
        Check.due("3", x, x.houses(), 3, 1, 2);
        HopCourts w = allOwned();
        Check.due("8", w, w.houses(), 8, 8, 0);
    }
}
