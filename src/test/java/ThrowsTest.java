/** Promises 10 to 17: throws, turns, houses, reach, games, undo. */
public final class ThrowsTest {
    public static void main(String[] args) {
        oneThrow();
        limits();
        plays();
        passes();
        takes();
        leaves();
        grows();
        games();
        wrongGames();
        undo();
        Check.end("ThrowsTest");
    }

    private static void oneThrow() {
        HopCourts none = new HopCourts();
        none.fits();
        Check.due("no players", none, none.throwsOne(), -1, 0);
        HopCourts x = Check.made("11", "20;30");
        Check.rule(x, "n-1");
        Check.due("off -1", x, x.throwsOne(), 0, 99, 1);
        Check.due("faults", x.player(0, 5), 1);
        Check.due("throws", x.count(4), 1);
        Check.due("no fault", x, x.throwsOne(), 1, 100, 1);
        Check.due("place", x.player(1, 2), 1);
        Check.due("off 1", x, x.throwsOne(), 0, 102, 0);
        Check.due("behind the last one: 0", x.count(3), 0);
        Check.rule(x, "0");
        Check.due("no fault", x, x.throwsOne(), 1, 100, 0);
        Check.due("all thrown", x, x.throwsOne(), 1, 101, 0);
        Check.due("rights", x.player(0, 6), 1);
        Check.due("place is 0", x.player(0, 2), 0);
        x.takes(0, 0);
        x.throwsOne();
        x.throwsOne();
        x.takes(0, 1);
        x.passes();
        Check.due("goal is no square", x, x.throwsOne(), 0, 102, 0);
        Check.due("faults", x.player(1, 5), 2);
        // By REACH 1 the own stone in a ROW of one SQUARE can't be hopped over.
        HopCourts y = Check.made("1", "10");
        Check.due("can't hop", y, y.throwsOne(), 0, 100, 0);
        HopCourts z = Check.made("2", "10");
        Check.due("can hop round it", z, z.throwsOne(), 1, 100, 0);
        // Right behind others' HOUSES: RIGHTS come, though the last SQUARES were never thrown into.
        HopCourts w = Check.made("12", "40;40");
        Check.rule(w, "0");
        w.plays(6);
        w.takes(0, 2);
        w.takes(0, 1);
        w.passes();
        Check.due("one square is all", w, w.throwsOne(), 1, 100, 1);
        Check.due("rights", w.player(1, 6), 1);
        Check.due("place 0", w.player(1, 2), 0);
    }

    private static void limits() {
        HopCourts x = Check.made("1", "40");
        Check.rule(x, "1");
        x.plays(60);
        x.plays(38);
        Check.due("98 faults", x.player(0, 5), 98);
        x.plays(5);
        Check.due("99 at most", x.player(0, 5), 99);
        Check.rule(x, "0");
        x.plays(8);
        Check.due("8 rights", x.player(0, 6), 8);
        x.plays(5);
        Check.due("9 at most", x.player(0, 6), 9);
        Check.due("throws", x.count(4), 116);
    }

    private static void plays() {
        HopCourts none = new HopCourts();
        Check.due("no players", none.plays(1), -1);
        HopCourts x = Check.made("121", "13;25");
        Check.due("n 0", x.plays(0), -1);
        Check.due("n 61", x.plays(61), -1);
        Check.due("n -1", x.plays(-1), -1);
        Check.due("throws", x.count(4), 0);
        Check.due("7", x, x.plays(7), 5, 0, 1);
        Check.due("one step to undo", x.count(9), 1);
        HopCourts y = Check.made("22", "40;10;10");
        Check.rule(y, "n=6");
        // A fault each seventh: 18 right throws of players 0 and 1, 16 of player 2, in a round of 4.
        Check.due("60", y, y.plays(60), 52, 2, 2, 0);
        Check.due("throws", y.count(4), 60);
        Check.due("undo", y.undo(), 0);
        Check.due("throws back", y.count(4), 0);
        Check.due("faults back", y.count(5), 0);
    }

    private static void passes() {
        Check.due("no players", new HopCourts().passes(), -1);
        HopCourts x = Check.made("1", "10;10;10");
        x.fits();
        Check.due("1", x, x.passes(), 1, 3);
        Check.due("2", x.passes(), 2);
        Check.due("0", x.passes(), 0);
        Check.due("no throws", x.count(4), 0);
        Check.due("no faults", x.count(5), 0);
        HopCourts y = Check.made("1", "10");
        Check.due("alone", y.passes(), 0);
        Check.due("can be undone", y.undo(), 0);
    }

    private static void takes() {
        HopCourts x = Check.made("12", "40;40");
        Check.rule(x, "0");
        Check.due("no rights", x.takes(0, 0), -2);
        x.plays(6);
        x.passes();
        x.plays(3);
        int undone = x.count(9);
        Check.due("first", x.takes(0, 1), 1);
        Check.due("rights less", x.player(0, 6), 1);
        Check.due("own already", x.takes(0, 1), -3);
        Check.due("another one's", x.takes(1, 1), -3);
        Check.due("none such", x.takes(0, 3), -1);
        Check.due("none such", x.takes(0, -1), -1);
        Check.due("none such", x.takes(2, 0), -1);
        Check.due("none such", x.takes(-1, 0), -1);
        Check.due("second", x.takes(0, 0), 2);
        Check.due("no rights ahead of a house", x.takes(0, 0), -2);
        Check.due("others take, too", x.takes(1, 2), 1);
        Check.due("steps", x.count(9), undone + 3);
        Check.due("told stays", x.row(0), 0);
        Check.due("none such ahead of no rights", x.takes(0, 9), -1);
    }

    private static void leaves() {
        HopCourts x = Check.made("12", "40;40");
        Check.rule(x, "0");
        x.plays(6);
        x.takes(0, 1);
        x.takes(0, 2);
        Check.due("not his", x.leaves(1, 1), -2);
        Check.due("nobody's", x.leaves(0, 0), -2);
        Check.due("none such", x.leaves(2, 1), -1);
        Check.due("none such", x.leaves(0, 3), -1);
        Check.due("none such", x.leaves(0, -1), -1);
        int undone = x.count(9);
        Check.due("left", x.leaves(0, 1), 1);
        Check.due("nobody's", x.square(1, 1), 4);
        Check.due("rights do not come back", x.player(0, 6), 0);
        Check.due("again", x.leaves(0, 1), -2);
        Check.due("last", x.leaves(0, 2), 0);
        Check.due("steps", x.count(9), undone + 2);
    }

    private static void grows() {
        HopCourts x = Check.made("1", "10;30");
        Check.due("to 4", x.grows(0, 4), 11);
        Check.due("reach", x.player(0, 0), 4);
        Check.due("to 1", x.grows(0, 1), 14);
        Check.due("so it is", x.grows(0, 1), -2);
        Check.due("v 0", x.grows(0, 0), -1);
        Check.due("v 5", x.grows(0, 5), -1);
        Check.due("none such", x.grows(2, 1), -1);
        Check.due("none such", x.grows(-1, 1), -1);
        Check.due("steps", x.count(9), 2);
    }

    private static void games() {
        HopCourts none = new HopCourts();
        Check.due("no players: nothing", none, Check.game(none, ""), 0, 0, 0);
        Check.due("no players: *", none, Check.game(none, "*"), 0, 1, 0);
        Check.due("no players: /", none, Check.game(none, "/"), 0, 1, 0);
        Check.due("nothing to undo", none.count(9), 0);
        HopCourts x = Check.made("11", "20;30");
        Check.rule(x, "0");
        Check.due("all acts", x, Check.game(x, "**t001l001/g14"), 6, 0, 1);
        Check.due("the text is gone", x.count(11), 0);
        Check.due("reach", x.player(1, 0), 4);
        Check.due("rights are used", x.player(0, 6), 0);
        Check.due("house left", x.square(1, 1), 4);
        Check.due("one step", x.count(9), 1);
        Check.due("undo", x.undo(), 0);
        Check.due("throws", x.count(4), 0);
        Check.due("reach", x.player(1, 0), 3);
        Check.due("the first can't be", x, Check.game(x, "t000**"), 0, 1, 0);
        Check.due("no step", x.count(9), 0);
        Check.due("none such", x, Check.game(x, "/t910"), 1, 1, 1);
        Check.due("square 10", x, Check.game(x, "/l010"), 1, 1, 0);
        Check.due("grows as it is", x, Check.game(x, "/g02*"), 1, 1, 1);
        Check.due("steps", x.count(9), 3);
        String sixty = "**********".repeat(6);
        Check.due("60 signs", x, Check.game(x, sixty), 60, 0, 1);
        Check.due("a fault is done", Check.rule(x, "1"), 0);
        Check.due("faults", x, Check.game(x, "***"), 3, 0, 0);
        HopCourts y = Check.made("22222222", "40;40");
        Check.rule(y, "0");
        y.plays(16);
        Check.due("square of two digits", y, Check.game(y, "t015"), 1, 0, 0);
        Check.due("whose", y.square(15, 1), 0);
        Check.due("left", Check.game(y, "l015"), 1);
        Check.due("whose", y.square(15, 1), 4);
    }

    private static void wrongGames() {
        HopCourts x = Check.made("11", "20;30");
        Check.rule(x, "0");
        x.fits();
        String sixty = "*".repeat(60);
        String[] wrong = {"x", "t", "t0", "t00", "t0a0", "ta00", "t00a", "l", "l0", "l00", "g", "g0", "g0*", "* *", "*;",
            "t0000", "g012", sixty + "*", sixty + "x", sixty + "**", sixty.substring(1) + "t000",
            sixty.substring(2) + "t000", sixty.substring(3) + "t000", sixty.substring(3) + "tx00*", "0", "**T000",
            sixty.substring(4) + "t000*", sixty.substring(4) + "t00x"};
        int[] at = {0, 1, 2, 3, 2, 1, 3, 1, 2, 3, 1, 2, 2, 1, 1,
            4, 3, 60, 60, 60, 60,
            60, 60, 58, 0, 2,
            60, 59};
        for (int i = 0; i < wrong.length; i++) {
            Check.due("game " + wrong[i], x, Check.game(x, wrong[i]), -1 - at[i], 2);
            Check.due("the text is gone", x.count(11), 0);
        }
        Check.due("nothing is done", x.count(4), 0);
        Check.due("nothing to undo", x.count(9), 0);
    }

    private static void undo() {
        HopCourts x = Check.made("11", "20;30");
        Check.rule(x, "0");
        x.fits();
        Check.due("none", x, x.undo(), -1, 2);
        for (int i = 1; i <= 12; i++) {
            x.throwsOne();
            Check.due("steps", x.count(9), i);
        }
        x.passes();
        Check.due("12 are kept", x.count(9), 12);
        x.grows(0, 1);
        Check.due("12 are kept", x.count(9), 12);
        x.takes(0, 5);
        x.takes(1, 0);
        x.grows(0, 1);
        x.plays(0);
        Check.due("refused ones are not kept", x.count(9), 12);
        Check.due("undo", x.undo(), 11);
        Check.due("reach", x.player(0, 0), 2);
        Check.due("turn", x.count(3), 1);
        Check.due("undo", x.undo(), 10);
        Check.due("turn", x.count(3), 0);
        for (int left = 9; left >= 0; left--) {
            Check.due("undo", x.undo(), left);
            Check.due("throws", x.count(4), left + 2);
        }
        Check.due("none left", x.undo(), -1);
        Check.due("the oldest are lost", x.count(4), 2);
        Check.due("rights", x.player(0, 6), 1);
        x.throwsOne();
        x.heard(0, 1);
        x.saw(0, 0);
        Check.rule(x, "1");
        Check.due("undo", x.undo(), 0);
        Check.due("what was heard stays", x.count(7), 1);
        Check.due("what was seen stays", x.count(8), 1);
        Check.due("the rule stays", x.player(0, 7), 11);
        x.passes();
        x.keep(0);
        x.passes();
        x.again(0);
        Check.due("again() forgets", x.undo(), -1);
        x.passes();
        x.again(1);
        Check.due("a refused again() does not", x.count(9), 1);
        Check.players(x, "x");
        Check.court(x, "x");
        Check.due("refused ones do not", x.count(9), 1);
        Check.players(x, "11");
        Check.due("players() forgets", x.count(9), 0);
        x.passes();
        Check.court(x, "11");
        Check.due("court() forgets", x.undo(), -1);
    }
}
