/** Promises 32 to 39: each sentence that names an edge, by itself. */
public final class CluesLawsEdgesTest {
    private static final int[] LEAST = {1, 0, 0, 0, 0};
    private static final int[] MOST = {4, 9, 9, 1, 9};
    /** At which n was looked. */
    private static final int[] SEEN = new int[10];

    public static void main(String[] args) {
        heardOfEach();
        heardIsFull();
        forgets();
        fitsReach();
        fitsAim();
        fitsGoal();
        fitsHouses();
        fitsFaults();
        fitsNow();
        asksTheLeast();
        asksOfNone();
        asksEachKind();
        sawEach();
        sawIsFull();
        denies();
        lawsOfEach();
        lawsTellTheLeast();
        looksAtTheLeast();
        looksOfNone();
        Check.end("CluesLawsEdgesTest");
    }

    /** 32: "REACH is v (1 .. 4); AIM is v (0 .. 9) or more; GOAL ..; he has a HOUSE (1) or none (0); FAULTS .." */
    private static void heardOfEach() {
        for (int what = 0; what < 5; what++) {
            for (int v = -2; v <= 11; v++) {
                HopCourts x = new HopCourts();
                x.rests(18);
                boolean fine = v >= LEAST[what] && v <= MOST[what];
                Check.due("32: " + what + ", " + v, x, x.heard(what, v), fine ? 1 : -1, 9, 9);
                Check.due("32: how many such", x.count(7), fine ? 1 : 0);
            }
        }
        HopCourts x = new HopCourts();
        for (int what : new int[] {-1, 5, Integer.MIN_VALUE, Integer.MAX_VALUE}) {
            Check.due("32: what " + what, x.heard(what, 1), -1);
        }
    }

    /** 32: "Refused: others, 12." */
    private static void heardIsFull() {
        HopCourts x = Check.made("1", "13;24");
        for (int i = 1; i <= 12; i++) {
            Check.due("32: how many such", x.heard(1, i > 11 ? 4 : 0), i);
        }
        for (int i = 0; i < 3; i++) {
            Check.due("32: 12 are there", x.heard(0, 1), -1);
            Check.due("48: 12", x.count(7), 12);
        }
        Check.due("34: the twelfth counts, the next one not", x, x.fits(), 2, 1);
        Check.due("33: how many there were", x.forget(), 12);
        Check.due("32: from the first on", x.heard(0, 1), 1);
        Check.due("34: the former ones are gone", x, x.fits(), 1, 1);
    }

    /** 33: "It is forgotten: how many there were." */
    private static void forgets() {
        HopCourts x = Check.made("1", "13;24");
        x.order();
        Check.due("33: none", x, x.forget(), 0, 0, 1);
        x.heard(0, 1);
        Check.due("33: one", x, x.forget(), 1, 0, 1);
        Check.due("33: none is left", x.forget(), 0);
        x.saw(0, 0);
        x.forget();
        Check.due("33: what was seen stays", x.count(8), 1);
    }

    private static void fits(HopCourts x, int what, int v, int bits) {
        x.forget();
        x.heard(what, v);
        Check.due("34: " + what + ", " + v, x, x.fits(), bits, Integer.bitCount(bits));
    }

    private static void fitsReach() {
        HopCourts x = Check.made("1", "10;20;30;40");
        for (int v = 1; v <= 4; v++) {
            fits(x, 0, v, 1 << v - 1);
        }
        x.grows(0, 4);
        fits(x, 0, 4, 9);
        fits(x, 0, 1, 0);
    }

    private static void fitsAim() {
        HopCourts x = Check.made("1", "10;14;15;19");
        fits(x, 1, 0, 15);
        fits(x, 1, 1, 14);
        fits(x, 1, 4, 14);
        fits(x, 1, 5, 12);
        fits(x, 1, 6, 8);
        fits(x, 1, 9, 8);
    }

    private static void fitsGoal() {
        HopCourts x = Check.made("22222222", "40;40;40");
        Check.rule(x, "0");
        x.plays(9);
        x.passes();
        x.plays(8);
        x.passes();
        fits(x, 2, 0, 7);
        fits(x, 2, 1, 3);
        fits(x, 2, 8, 3);
        fits(x, 2, 9, 1);
        x.plays(15);
        fits(x, 2, 9, 5);
        // No GOAL is how many SQUARES there are: 2 in this court.
        HopCourts y = Check.owned("2", 4, 3, 4, 0);
        fits(y, 2, 2, 2);
        fits(y, 2, 1, 2);
        fits(y, 2, 0, 3);
        fits(y, 2, 3, 0);
    }

    private static void fitsHouses() {
        HopCourts x = Check.owned("2", 4, 1, 4, 0);
        fits(x, 3, 1, 1);
        fits(x, 3, 0, 2);
        x.leaves(0, 0);
        fits(x, 3, 1, 0);
        fits(x, 3, 0, 3);
    }

    private static void fitsFaults() {
        HopCourts x = Check.made("1", "40;40;40");
        Check.rule(x, "i>0");
        x.passes();
        x.throwsOne();
        fits(x, 4, 0, 7);
        fits(x, 4, 1, 2);
        fits(x, 4, 2, 0);
        Check.rule(x, "1");
        x.plays(27);
        // Players 0 and 2 have 9, player 1 has 10.
        fits(x, 4, 9, 7);
        x.undo();
        x.plays(24);
        fits(x, 4, 9, 2);
        fits(x, 4, 8, 7);
    }

    /** 34: "who fit all that was heard now". */
    private static void fitsNow() {
        HopCourts none = new HopCourts();
        none.rests(18);
        Check.due("34: no PLAYERS", none, none.fits(), 0, 0);
        none.heard(1, 0);
        Check.due("34: no PLAYERS, something heard", none, none.fits(), 0, 0);
        HopCourts x = Check.made("1", "13;24;24;41");
        Check.due("34: nothing was heard", x, x.fits(), 15, 4);
        x.heard(1, 2);
        Check.due("34: one", x, x.fits(), 7, 3);
        x.heard(0, 2);
        Check.due("34: both", x, x.fits(), 6, 2);
        x.heard(0, 1);
        Check.due("34: none", x, x.fits(), 0, 0);
        x.forget();
        x.heard(1, 5);
        Check.due("34: none now", x, x.fits(), 0, 0);
        x.sheet(2, 4, 2, 2);
        Check.due("34: AIMS 2, 4, 6, 8 now", x, x.fits(), 12, 2);
    }

    /** 35: "10 times what and v, as they may be heard, of equal ones the least: it; the told numbers: how many at most". */
    private static void asksTheLeast() {
        HopCourts one = Check.made("1", "35");
        Check.due("35: one: the least of all", one, one.asks(), 1, 1);
        HopCourts same = Check.made("1", "35;35;35;35");
        Check.due("35: nothing parts them", same, same.asks(), 1, 4);
        HopCourts two = Check.made("1", "25;35");
        Check.due("35: REACH 2 or 3 parts them", two, two.asks(), 2, 1);
        HopCourts reach = Check.made("1", "15;15;45;45");
        Check.due("35: two and two by REACH 1", reach, reach.asks(), 1, 2);
        HopCourts fourth = Check.made("1", "45;45;35;25");
        Check.due("35: two and two by REACH 4", fourth, fourth.asks(), 4, 2);
        HopCourts aim = Check.made("1", "10;20;39;49");
        Check.due("35: AIM parts better than REACH", aim, aim.asks(), 11, 2);
        aim.heard(1, 1);
        Check.due("35: of those that fit", aim, aim.asks(), 3, 1);
    }

    /** 35: "-2: none fits." */
    private static void asksOfNone() {
        HopCourts none = new HopCourts();
        none.rests(18);
        Check.due("35: no PLAYERS", none, none.asks(), -2, 9, 9);
        HopCourts x = Check.made("1", "13;24");
        x.order();
        x.heard(0, 3);
        Check.due("35: none fits", x, x.asks(), -2, 0, 1);
        x.forget();
        for (int i = 0; i < 12; i++) {
            x.heard(1, 0);
        }
        Check.due("35: asked with 12 heard, too", x, x.asks(), 1, 1);
    }

    private static void asksEachKind() {
        int[] due = {19, 11, 15};
        String[] aims = {"19;18", "10;11", "14;15"};
        for (int i = 0; i < due.length; i++) {
            HopCourts x = Check.made("1", aims[i]);
            Check.due("35: AIMS " + aims[i], x, x.asks(), due[i], 1);
        }
        for (int goal = 1; goal <= 10; goal++) {
            HopCourts x = Check.made("22222222", "40;40");
            Check.rule(x, "0");
            x.plays(goal);
            if (goal > 1) {
                x.passes();
                x.plays(goal - 1);
            }
            // GOALS 9 and 10 are both 9 or more: nothing parts them.
            Check.due("35: GOAL " + goal, x, x.asks(), goal < 10 ? 20 + goal : 1, goal < 10 ? 1 : 2);
        }
        HopCourts house = Check.owned("2", 4, 2, 4, 0);
        Check.due("35: a HOUSE", house, house.asks(), 30, 1);
        for (int faults = 1; faults <= 10; faults++) {
            HopCourts x = Check.made("1", "40;40");
            Check.rule(x, "1");
            x.plays(2 * faults - 1);
            Check.due("35: FAULTS " + faults, x, x.asks(), faults < 10 ? 40 + faults : 1, faults < 10 ? 1 : 2);
        }
    }

    /** 36: "by n (0 .. 6) OFF was v (-1 .. 1)". */
    private static void sawEach() {
        for (int n = -1; n <= 7; n++) {
            for (int v = -2; v <= 2; v++) {
                HopCourts x = new HopCourts();
                x.rests(18);
                boolean fine = n >= 0 && n <= 6 && v >= -1 && v <= 1;
                Check.due("36: " + n + ", " + v, x, x.saw(n, v), fine ? 1 : -1, 9, 9);
                Check.due("36: how many such", x.count(8), fine ? 1 : 0);
            }
        }
        HopCourts x = new HopCourts();
        for (int far : new int[] {Integer.MIN_VALUE, Integer.MAX_VALUE}) {
            Check.due("36: n", x.saw(far, 0), -1);
            Check.due("36: v", x.saw(0, far), -1);
        }
    }

    /** 36: "Refused: others, 10." */
    private static void sawIsFull() {
        HopCourts x = new HopCourts();
        for (int i = 1; i <= 10; i++) {
            Check.due("36: how many such", x.saw(i < 10 ? 6 : 0, i < 10 ? 1 : -1), i);
        }
        int laws = x.laws();
        Check.due("38: a below 6, b above 0: the tenth counts", laws, 36);
        for (int i = 0; i < 3; i++) {
            Check.due("36: 10 are there", x.saw(6, 0), -1);
            Check.due("48: 10", x.count(8), 10);
        }
        Check.due("38: the eleventh does not", x.laws(), laws);
    }

    /** 37: "It is denied: how many there were." */
    private static void denies() {
        HopCourts x = Check.made("1", "13;24");
        x.order();
        Check.due("37: none", x, x.denies(), 0, 0, 1);
        x.saw(0, 1);
        x.saw(0, 1);
        x.heard(0, 1);
        Check.due("37: two", x, x.denies(), 2, 0, 1);
        Check.due("37: none is left", x.denies(), 0);
        Check.due("37: what was heard stays", x.count(7), 1);
        Check.due("38: all fit", x.laws(), 49);
        Check.due("36: from the first on", x.saw(3, 0), 1);
    }

    private static int off(int a, int b, int n) {
        return (n > a ? 1 : 0) - (n < b ? 1 : 0);
    }

    /** "OFF is 1 if n is above a, less 1 if n is below b": by one sight each. */
    private static void lawsOfEach() {
        for (int n = 0; n <= 6; n++) {
            for (int v = -1; v <= 1; v++) {
                int fitting = 0;
                int least = -1;
                for (int law = 48; law >= 0; law--) {
                    if (off(law / 7, law % 7, n) == v) {
                        fitting++;
                        least = law;
                    }
                }
                HopCourts x = new HopCourts();
                x.saw(n, v);
                if (fitting > 0) {
                    Check.due("38: by " + n + " " + v, x, x.laws(), fitting, least / 7, least % 7);
                } else {
                    Check.due("38: by " + n + " " + v, x, x.laws(), 0);
                }
            }
        }
    }

    /** 38: "the least a, b (nothing without)". */
    private static void lawsTellTheLeast() {
        HopCourts x = new HopCourts();
        Check.due("38: all 49", x, x.laws(), 49, 0, 0);
        x.saw(0, -1);
        Check.due("38: 0 is below b, so b from 1 on", x, x.laws(), 42, 0, 1);
        x.saw(6, 0);
        Check.due("38: 6 is not above a: a 6", x, x.laws(), 6, 6, 1);
        x.saw(5, -1);
        Check.due("38: 5 is below b: b 6", x, x.laws(), 1, 6, 6);
        x.saw(6, 1);
        Check.due("38: none", x, x.laws(), 0);
        // By a 0 and b 3 the sights 1 and 2 come to 0, as by a 2, b 0 or 1.
        HopCourts y = new HopCourts();
        y.saw(1, 0);
        y.saw(2, 0);
        y.saw(3, 1);
        Check.due("38: the least a, then b", y, y.laws(), 3, 0, 3);
    }

    /** 39: "of equal ones the least: it; the told numbers: how many at most". */
    private static void looksAtTheLeast() {
        HopCourts x = new HopCourts();
        Check.due("39: nothing was seen", x, x.looks(), 2, 23);
        for (int a = 0; a <= 6; a++) {
            for (int b = 0; b <= 6; b++) {
                looked(a, b);
            }
        }
    }

    /** A law is looked for; each look leaves no more laws than it said. */
    private static void looked(int a, int b) {
        HopCourts x = new HopCourts();
        int left = x.laws();
        for (int i = 0; i < 7 && left > 1; i++) {
            int n = x.looks();
            long most = x.row(0);
            Check.due("39: n", n >= 0 && n <= 6, true);
            Check.due("39: the least of those that leave as few", n, bestLook(x.count(8), a, b, most));
            x.saw(n, off(a, b, n));
            SEEN[i] = n;
            left = x.laws();
            Check.due("39: at most", left >= 1 && left <= most, true);
        }
    }

    /** By counting laws that fit the first sights of a law. */
    private static int bestLook(int sights, int a, int b, long told) {
        int best = -1;
        int least = 50;
        for (int n = 0; n <= 6; n++) {
            int[] left = new int[3];
            for (int law = 0; law < 49; law++) {
                boolean fits = true;
                for (int i = 0; i < sights; i++) {
                    fits &= off(law / 7, law % 7, SEEN[i]) == off(a, b, SEEN[i]);
                }
                if (fits) {
                    left[1 + off(law / 7, law % 7, n)]++;
                }
            }
            int most = Math.max(left[0], Math.max(left[1], left[2]));
            if (most < least) {
                least = most;
                best = n;
            }
        }
        Check.due("39: how many at most", told, least);
        return best;
    }

    /** 39: "-2: none fits." */
    private static void looksOfNone() {
        HopCourts x = new HopCourts();
        x.rests(18);
        x.saw(3, 0);
        x.saw(3, 1);
        Check.due("39: none fits", x, x.looks(), -2, 9, 9);
        x.denies();
        Check.due("39: denied", x, x.looks(), 2, 23);
        // a 6, b 6 alone is left: any look leaves it.
        x.saw(6, 0);
        x.saw(5, -1);
        Check.due("39: one is left: the least n", x, x.looks(), 0, 1);
    }
}
