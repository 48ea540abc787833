/** Promises 32 to 39: which player it was, laws of throwing. */
public final class CluesLawsTest {
    public static void main(String[] args) {
        heard();
        fits();
        asks();
        saw();
        laws();
        looks();
        Check.end("CluesLawsTest");
    }

    private static void heard() {
        HopCourts x = new HopCourts();
        int[][] wrong = {{0, 0}, {0, 5}, {1, -1}, {1, 10}, {2, -1}, {2, 10}, {3, -1}, {3, 2}, {4, -1}, {4, 10}, {5, 0},
            {-1, 0}};
        for (int[] w : wrong) {
            Check.due("heard " + w[0] + ", " + w[1], x.heard(w[0], w[1]), -1);
        }
        int[][] right = {{0, 1}, {0, 4}, {1, 0}, {1, 9}, {2, 0}, {2, 9}, {3, 0}, {3, 1}, {4, 0}, {4, 9}, {4, 9}, {4, 9}};
        for (int i = 0; i < right.length; i++) {
            Check.due("heard", x.heard(right[i][0], right[i][1]), i + 1);
        }
        Check.due("12 is the most", x.heard(0, 1), -1);
        Check.due("count", x.count(7), 12);
        Check.due("forget", x.forget(), 12);
        Check.due("forget again", x.forget(), 0);
        Check.due("count", x.count(7), 0);
        Check.due("heard anew", x.heard(3, 0), 1);
    }

    /** Player 0: REACH 1, AIM 3, 1 FAULT; 1: REACH 2, AIM 5, a HOUSE (SQUARE 0), GOAL 0; 2: REACH 2, AIM 0. */
    private static HopCourts three() {
        HopCourts x = Check.made("121", "13;25;20");
        x.plays(5);
        x.takes(1, 0);
        return x;
    }

    private static void fits() {
        HopCourts none = new HopCourts();
        Check.due("no players", none, none.fits(), 0, 0);
        HopCourts x = three();
        Check.due("nothing was heard", x, x.fits(), 7, 3);
        fit(x, 0, 2, 6);
        fit(x, 0, 1, 1);
        fit(x, 0, 4, 0);
        fit(x, 1, 3, 3);
        fit(x, 1, 4, 2);
        fit(x, 1, 0, 7);
        fit(x, 2, 0, 7);
        fit(x, 2, 1, 5);
        fit(x, 2, 2, 0);
        fit(x, 3, 1, 2);
        fit(x, 3, 0, 5);
        fit(x, 4, 0, 7);
        fit(x, 4, 1, 1);
        fit(x, 4, 2, 0);
        x.heard(0, 2);
        x.heard(3, 0);
        Check.due("both", x, x.fits(), 4, 1);
        x.leaves(1, 0);
        Check.due("as it is now", x, x.fits(), 6, 2);
    }

    private static void fit(HopCourts x, int what, int v, int bits) {
        x.forget();
        x.heard(what, v);
        Check.due("heard " + what + ", " + v, x, x.fits(), bits, Integer.bitCount(bits));
        x.forget();
    }

    private static void asks() {
        HopCourts none = new HopCourts();
        none.fits();
        Check.due("no players", none, none.asks(), -2, 0);
        HopCourts x = three();
        Check.due("REACH 1: two at most", x, x.asks(), 1, 2);
        x.heard(0, 2);
        // Players 1 and 2: of REACH nothing parts them, AIM 1 or more does.
        Check.due("AIM", x, x.asks(), 11, 1);
        x.heard(1, 1);
        Check.due("one is left: the least", x, x.asks(), 1, 1);
        x.heard(4, 9);
        Check.due("none fits", x, x.asks(), -2, 1);
        HopCourts same = Check.made("1", "20;20;20");
        Check.due("nothing parts them", same, same.asks(), 1, 3);
        // Equal but for FAULTS, then but for a HOUSE.
        HopCourts y = Check.made("2", "20;20");
        Check.rule(y, "i=0");
        y.plays(1);
        Check.due("FAULTS", y, y.asks(), 41, 1);
        y.plays(2);
        y.takes(1, 1);
        Check.due("a HOUSE", y, y.asks(), 30, 1);
        HopCourts z = Check.made("22", "20;20");
        Check.rule(z, "0");
        z.plays(3);
        Check.due("GOAL", z, z.asks(), 21, 1);
        HopCourts far = Check.made("1", "29;28");
        Check.due("AIM 9", far, far.asks(), 19, 1);
        HopCourts four = Check.made("1", "10;11;12;13");
        Check.due("two and two", four, four.asks(), 12, 2);
    }

    private static void saw() {
        HopCourts x = new HopCourts();
        int[][] wrong = {{-1, 0}, {7, 0}, {0, 2}, {0, -2}};
        for (int[] w : wrong) {
            Check.due("saw " + w[0] + ", " + w[1], x.saw(w[0], w[1]), -1);
        }
        for (int i = 0; i < 10; i++) {
            Check.due("saw", x.saw(i % 7, i % 3 - 1), i + 1);
        }
        Check.due("10 is the most", x.saw(0, 0), -1);
        Check.due("count", x.count(8), 10);
        Check.due("denies", x.denies(), 10);
        Check.due("denies again", x.denies(), 0);
        Check.due("count", x.count(8), 0);
        Check.due("saw anew", x.saw(6, 1), 1);
    }

    private static void laws() {
        HopCourts x = new HopCourts();
        Check.due("all", x, x.laws(), 49, 0, 0);
        x.saw(3, 1);
        Check.due("a below 3, b to 3", x, x.laws(), 12, 0, 0);
        x.saw(2, 0);
        // a below 2 and b above 2, or a 2 and b to 2.
        Check.due("two kinds", x, x.laws(), 2 * 1 + 1 * 3, 0, 3);
        x.saw(1, 0);
        // a 0 and b 3, or a 2 and b 0, or a 2 and b 1.
        Check.due("three are left", x, x.laws(), 3, 0, 3);
        x.denies();
        x.saw(0, -1);
        Check.due("b above 0", x, x.laws(), 42, 0, 1);
        x.saw(6, 0);
        Check.due("a 6", x, x.laws(), 6, 6, 1);
        x.saw(6, 1);
        Check.due("none", x, x.laws(), 0);
    }

    private static void looks() {
        HopCourts x = new HopCourts();
        Check.due("first", x, x.looks(), 2, 23);
        x.saw(3, 1);
        // a 0 .. 2, b 0 .. 3: by n 1: OFF 1 by 1 * 2, less 1 by 2 * 2, 0 by 6; by n 2: 1 by 2 * 3, less by 1, 0 by 5.
        Check.due("then", x, x.looks(), 1, 6);
        x.saw(1, 1);
        Check.due("a 0, b 0 or 1", x, x.looks(), 0, 1);
        x.saw(0, 0);
        Check.due("one law", x, x.looks(), 0, 1);
        x.saw(0, 1);
        Check.due("none fits", x, x.looks(), -2, 1);
        // a 5 or 6, b 0: by n 6 alone they differ.
        HopCourts y = new HopCourts();
        y.saw(0, 0);
        y.saw(5, 0);
        Check.due("n 6", y, y.looks(), 6, 1);
    }
}
