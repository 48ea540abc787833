/** Promises 27 to 31: throws to come, who leads. */
public final class ThrowsToComeTest {
    public static void main(String[] args) {
        later();
        when();
        run();
        round();
        order();
        Check.end("ThrowsToComeTest");
    }

    private static void later() {
        HopCourts x = Check.made("121", "13;25");
        x.fits();
        Check.due("none such", x, x.later(2, 1), -1, 2);
        Check.due("none such", x, x.later(-1, 1), -1, 2);
        Check.due("n 100", x, x.later(0, 100), -1, 2);
        Check.due("n -1", x, x.later(0, -1), -1, 2);
        Check.due("now", x, x.later(1, 0), 0, 0, 0);
        Check.due("2", x, x.later(1, 2), 1, 0, 0);
        Check.due("7", x, x.later(1, 7), 1, 1, 1);
        Check.due("nothing has changed", x.count(4) + x.count(5) + x.player(1, 2), 0);
        HopCourts y = Check.made("1", "40");
        Check.rule(y, "1");
        Check.due("99 faults", y, y.later(0, 99), 0, 0, 99);
        y.plays(5);
        Check.due("99 at most", y, y.later(0, 99), 0, 0, 99);
        Check.rule(y, "0");
        Check.due("9 rights at most", y, y.later(0, 99), 0, 9, 5);
    }

    private static void when() {
        HopCourts x = Check.made("121", "13;25");
        x.fits();
        Check.due("none such", x, x.when(2), -1, 2);
        Check.due("none such", x, x.when(-1), -1, 2);
        Check.due("player 0 never", x, x.when(0), -2, 2);
        Check.due("player 1", x, x.when(1), 5, 1);
        x.plays(5);
        Check.due("more than now", x.when(1) > 1, true);
        Check.due("nothing has changed", x.count(4), 5);
        HopCourts y = Check.made("1", "40");
        Check.rule(y, "0");
        Check.due("at once", y, y.when(0), 1, 0);
        y.plays(9);
        Check.due("9 is the most", y, y.when(0), -2, 0);
        // Ninety-eight faults, then one right throw: the rule asks for FAULTS.
        HopCourts z = Check.made("1", "40");
        Check.rule(z, "f<98");
        Check.due("behind 99", z, z.when(0), 99, 98);
        Check.rule(z, "f<99");
        Check.due("behind 100", z, z.when(0), -2, 98);
    }

    private static void run() {
        HopCourts none = new HopCourts();
        Check.due("no players", none.run(5), -1);
        HopCourts x = Check.made("121", "13;25");
        x.fits();
        Check.due("n 0", x, x.run(0), -1, 2);
        Check.due("n 100", x, x.run(100), -1, 2);
        Check.due("none", x, x.run(1), 0, 0);
        Check.due("7", x, x.run(7), 5, 2);
        Check.due("3", x, x.run(3), 2, 2);
        // Alone by n=3: faults are THROWS 4, 11, 18, ..: of as long ones the first.
        HopCourts y = Check.made("2", "10");
        Check.rule(y, "n=3");
        Check.due("99", y, y.run(99), 6, 5);
        Check.due("3", y, y.run(3), 3, 1);
        Check.due("nothing has changed", y.count(4), 0);
    }

    private static void round() {
        HopCourts none = new HopCourts();
        none.fits();
        Check.due("no players", none, none.round(), -2, 0);
        HopCourts x = Check.made("2", "10");
        Check.rule(x, "0");
        x.fits();
        // RIGHTS stop at 9, behind 18 THROWS; then PLACE goes round by 2, THROWS by 7.
        Check.due("behind 18 and 14", x, x.round(), 32, 18);
        x.plays(20);
        Check.due("from now on", x, x.round(), 14, 0);
        Check.due("nothing has changed", x.count(4), 20);
        HopCourts y = Check.made("1", "10");
        Check.due("faults to 99, then 7", y, y.round(), -2);
        y.plays(10);
        Check.due("faults to 99, then 7", y, y.round(), 96, 89);
        HopCourts z = Check.made("1", "10");
        z.plays(6);
        Check.due("99 is told no more", z, z.round(), -2, 0);
        z.plays(1);
        Check.due("99", z, z.round(), 99, 92);
    }

    private static void order() {
        HopCourts none = new HopCourts();
        Check.due("no players", none, none.order(), 0);
        HopCourts x = Check.made("22", "20;20;20;20");
        Check.due("the lesser number", x, x.order(), 4, 0, 1, 2, 3);
        Check.rule(x, "0");
        x.passes();
        x.plays(2);
        x.passes();
        x.plays(3);
        Check.due("the farther place", x, x.order(), 4, 2, 1, 0, 3);
        x.passes();
        x.plays(4);
        Check.due("rights", x, x.order(), 4, 3, 2, 1, 0);
        x.passes();
        Check.rule(x, "i=0");
        x.throwsOne();
        Check.due("faults", x, x.order(), 4, 3, 2, 1, 0);
        x.plays(1);
        x.takes(3, 0);
        Check.due("houses and rights together", x, x.order(), 4, 3, 1, 2, 0);
        HopCourts y = Check.made("22", "20;20");
        Check.rule(y, "i=0");
        y.throwsOne();
        Check.due("fewer faults", y, y.order(), 2, 1, 0);
    }
}
