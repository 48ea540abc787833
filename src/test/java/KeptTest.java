/** Promises 46 to 49: kept, counts, the told numbers. */
public final class KeptTest {
    public static void main(String[] args) {
        kept();
        counts();
        rows();
        Check.end("KeptTest");
    }

    private static void kept() {
        HopCourts x = Check.made("11", "23;34");
        Check.rule(x, "0");
        x.fits();
        Check.due("keep(-1)", x.keep(-1), false);
        Check.due("keep(2)", x.keep(2), false);
        Check.due("nothing is kept", x.again(0), false);
        Check.due("nothing is kept", x.again(1), false);
        Check.due("again(-1)", x.again(-1), false);
        Check.due("again(2)", x.again(2), false);
        Check.due("keep(0)", x.keep(0), true);
        x.plays(3);
        x.takes(0, 1);
        x.grows(1, 1);
        x.sheet(2, 2, 7, 1);
        x.passes();
        Check.due("keep(1)", x.keep(1), true);
        x.leaves(0, 1);
        x.fits();
        Check.due("as it was at first", x, x.again(0) ? 1 : 0, 1, 2);
        long[] first = {2, 3, 0, 0, 0, 0, 0, 10};
        for (int what = 0; what < 8; what++) {
            Check.due("player 0, " + what, x.player(0, what), first[what]);
        }
        Check.due("reach", x.player(1, 0), 3);
        Check.due("aim", x.player(1, 1), 4);
        Check.due("turn, throws", x.count(3) + x.count(4), 0);
        Check.due("nothing to undo", x.undo(), -1);
        Check.due("the other one", x.again(1), true);
        Check.due("house", x.square(1, 1), 0);
        Check.due("reach", x.player(1, 0), 1);
        Check.due("aim", x.player(1, 1), 8);
        Check.due("turn", x.count(3), 1);
        Check.due("throws", x.count(4), 3);
        Check.due("once more", x.again(1), true);
        x.keep(1);
        x.passes();
        x.keep(1);
        x.passes();
        Check.due("the latest is kept", x.again(1), true);
        Check.due("turn", x.count(3), 0);
        x.heard(0, 1);
        x.saw(0, 1);
        Check.rule(x, "1");
        x.again(0);
        Check.due("what was heard and seen stays", x.count(7) + x.count(8), 2);
        Check.due("the rule stays", x.player(0, 7), 11);
        Check.players(x, "x");
        Check.court(x, "x");
        Check.players(x, "");
        Check.due("refused ones leave it", x.again(0), true);
        Check.players(x, "11");
        Check.due("PLAYERS came", x.again(0), false);
        Check.due("PLAYERS came", x.again(1), false);
        Check.due("keep anew", x.keep(0), true);
        Check.due("again", x.again(0), true);
        Check.court(x, "11");
        Check.due("THE COURT came", x.again(0), false);
        Check.due("without players", x.keep(1), true);
        Check.due("without players", x.again(1), true);
    }

    private static void counts() {
        HopCourts x = Check.made("1221", "10;20;30");
        Check.rule(x, "i=0");
        x.plays(7);
        x.heard(0, 1);
        x.heard(0, 2);
        x.saw(0, 1);
        Check.text(x, "abcde");
        long[] due = {4, 6, 3, 1, 7, 1, 1, 2, 1, 1, 3, 5};
        for (int what = 0; what < due.length; what++) {
            Check.due("count(" + what + ")", x.count(what), due[what]);
        }
        Check.due("count(-1)", x.count(-1), -1);
        Check.due("count(12)", x.count(12), -1);
        Check.due("count(max)", x.count(Integer.MAX_VALUE), -1);
    }

    private static void rows() {
        HopCourts x = new HopCourts();
        Check.noSuch("none is told", () -> x.row(0));
        x.rests(0);
        Check.due("row(0)", x.row(0), 9);
        Check.due("row(1)", x.row(1), 9);
        Check.noSuch("row(2)", () -> x.row(2));
        Check.noSuch("row(-1)", () -> x.row(-1));
        Check.noSuch("row(min)", () -> x.row(Integer.MIN_VALUE));
        HopCourts y = Check.made("11111111", "10");
        Check.due("eight are told", y, y.hop(0, 8), 9, 0, 1, 2, 3, 4, 5, 6, 7);
        Check.noSuch("row(8)", () -> y.row(8));
    }
}
