import java.util.List;

/** Promises 46 to 49, and what Terms 2 say of the told numbers: each sentence that names an edge, by itself. */
public final class KeptEdgesTest {
    public static void main(String[] args) {
        keepsByNumber();
        againByNumber();
        againAsItWas();
        againOftener();
        againForgotten();
        againLeavesOthers();
        countsAtTheEnds();
        rowsAtTheEnds();
        fewerTakeThePlaceOfMore();
        callsThatTellNothing();
        Check.end("KeptEdgesTest");
    }

    private static HopCourts made(String court, String players, String rule) {
        HopCourts x = Check.made(court, players);
        Check.due("rule " + rule, Check.rule(x, rule), 0);
        return x;
    }

    /** 46: "kept under a number 0 .. 1: true. Refused: others." */
    private static void keepsByNumber() {
        HopCourts x = made("1", "40;40", "0");
        x.order();
        for (int i : new int[] {-1, 2, Integer.MIN_VALUE, Integer.MAX_VALUE}) {
            Check.due("46: " + i, x, x.keep(i) ? 1 : 0, 0, 0, 1);
            Check.due("47: " + i, x, x.again(i) ? 1 : 0, 0, 0, 1);
        }
        Check.due("47: nothing was kept", x.again(0) || x.again(1), false);
        Check.due("46: 0", x, x.keep(0) ? 1 : 0, 1, 0, 1);
        Check.due("47: 1 is not 0", x.again(1), false);
        Check.due("46: 1", x, x.keep(1) ? 1 : 0, 1, 0, 1);
        HopCourts none = new HopCourts();
        Check.due("46: without PLAYERS", none.keep(0), true);
        Check.due("47: without PLAYERS", none.again(0), true);
        Check.due("47: not the other one", none.again(1), false);
    }

    /** 47: "Refused: nothing kept". */
    private static void againByNumber() {
        for (int i = 0; i <= 1; i++) {
            HopCourts x = made("1", "40;40", "0");
            x.keep(i);
            x.passes();
            Check.due("47: the other one", x.again(1 - i), false);
            Check.due("47: TURN stays", x.count(3), 1);
            Check.due("47: what can be undone stays", x.count(9), 1);
            Check.due("47: the one", x.again(i), true);
            Check.due("47: TURN", x.count(3), 0);
            Check.due("47: nothing can be undone", x.count(9), 0);
        }
    }

    /** 46: "What undo() brings back"; 47: "It is as it was kept". */
    private static void againAsItWas() {
        HopCourts x = made("22", "21;32;43", "n=5");
        x.plays(40);
        x.takes(0, 0);
        x.takes(1, 3);
        x.order();
        x.throwsOne();
        x.undo();
        List<Long> first = seen(x);
        x.keep(0);
        Check.due("47: keep() changes nothing", seen(x).equals(first), true);
        x.plays(13);
        x.takes(2, 1);
        x.leaves(1, 3);
        x.grows(0, 4);
        x.sheet(2, 3, 5, 2);
        x.passes();
        List<Long> then = seen(x);
        x.keep(1);
        Check.due("changed", then.equals(first), false);
        x.undo();
        x.again(0);
        Check.due("47: as under 0", seen(x).equals(first), true);
        x.plays(60);
        x.again(1);
        Check.due("47: as under 1", seen(x).equals(then), true);
        x.again(0);
        Check.due("47: as under 0 once more", seen(x).equals(first), true);
    }

    /** All but how many can be undone, which is no part of what is kept. */
    private static List<Long> seen(HopCourts x) {
        x.order();
        List<Long> seen = Twin.seen(x);
        seen.remove(9);
        return seen;
    }

    private static void againOftener() {
        HopCourts x = made("1", "40;40;40", "0");
        x.keep(0);
        x.passes();
        x.keep(0);
        x.passes();
        Check.due("46: the latest is kept", x.again(0), true);
        Check.due("TURN", x.count(3), 1);
        x.passes();
        Check.due("47: once more", x.again(0), true);
        Check.due("TURN", x.count(3), 1);
        x.passes();
        x.undo();
        Check.due("47: behind undo()", x.again(0), true);
        Check.due("TURN", x.count(3), 1);
        for (int i = 0; i < 15; i++) {
            x.passes();
        }
        Check.due("47: behind 15 acts", x.again(0), true);
        Check.due("TURN", x.count(3), 1);
        Check.due("undo", x.undo(), -1);
    }

    /** 47: "THE COURT or PLAYERS came since". */
    private static void againForgotten() {
        Check.due("47: THE COURT", kept(x -> Check.court(x, "1")), 0);
        Check.due("47: THE COURT, the same", kept(x -> Check.court(x, "12")), 0);
        Check.due("47: THE COURT, refused", kept(x -> Check.court(x, "13")), 2);
        Check.due("47: PLAYERS", kept(x -> Check.players(x, "11")), 0);
        Check.due("47: PLAYERS, refused", kept(x -> Check.players(x, "11;")), 2);
        Check.due("47: PLAYERS, no room", kept(x -> Check.players(x, "11;11;11")), 2);
        Check.due("47: PLAYERS, none of them", kept(x -> Check.players(x, "")), 2);
        Check.due("47: a rule", kept(x -> Check.rule(x, "1")), 2);
        Check.due("47: a game", kept(x -> Check.game(x, "*/")), 2);
        Check.due("47: a sheet", kept(x -> x.sheet(2, 2, 1, 1)), 2);
        Check.due("47: again()", kept(x -> x.again(0) ? 1 : 0), 2);
        Check.due("47: undo()", kept(x -> x.undo()), 2);
        Check.due("47: years()", kept(x -> x.years(1, 1)), 2);
        HopCourts x = made("1", "40", "0");
        x.keep(0);
        Check.players(x, "40");
        Check.due("47: PLAYERS came", x.again(0), false);
        x.keep(0);
        Check.due("47: kept behind them", x.again(0), true);
        Check.due("48: PLAYERS", x.count(2), 2);
    }

    /** How many of two kept ones are left behind a call. */
    private static int kept(Twin.Call call) {
        HopCourts x = made("12", "40;40", "0");
        x.keep(0);
        x.keep(1);
        x.passes();
        call.on(x);
        return (x.again(0) ? 1 : 0) + (x.again(1) ? 1 : 0);
    }

    private static void againLeavesOthers() {
        HopCourts x = made("1", "40;40", "0");
        x.keep(0);
        Check.rule(x, "2");
        x.heard(0, 4);
        x.saw(1, 1);
        x.order();
        Check.text(x, "12");
        Check.due("47: told numbers stay", x, x.again(0) ? 1 : 0, 1, 0, 1);
        Check.due("THE RULE", x.player(0, 7), 12);
        Check.due("heard", x.count(7), 1);
        Check.due("seen", x.count(8), 1);
        Check.due("THE TEXT", x.count(11), 2);
    }

    /** 48: "NONE for another what." */
    private static void countsAtTheEnds() {
        HopCourts x = new HopCourts();
        for (int what : new int[] {-1, -2, 12, 13, Integer.MIN_VALUE, Integer.MAX_VALUE}) {
            Check.due("48: " + what, x.count(what), -1);
        }
        for (int what = 0; what <= 11; what++) {
            Check.due("48: " + what, x.count(what), what == 0 ? 3 : what == 1 ? 4 : 0);
        }
        HopCourts full = made("22222222", "40;40;40;40", "1");
        for (int i = 0; i < 7; i++) {
            full.plays(60);
        }
        Check.rule(full, "0");
        for (int player = 0; player < 4; player++) {
            full.plays(60);
            full.plays(60);
            full.plays(60);
            full.passes();
        }
        for (int i = 0; i < 12; i++) {
            full.heard(1, 0);
            full.saw(0, 0);
            full.passes();
        }
        full.order();
        for (int i = 0; i < 20; i++) {
            full.sign(0);
        }
        int[] due = {8, 16, 4, 0, 1140, 396, 36, 12, 10, 12, 4, 80};
        for (int what = 0; what <= 11; what++) {
            Check.due("48: " + what, full.count(what), due[what]);
        }
        full.passes();
        Check.due("48: TURN", full.count(3), 1);
    }

    /** 49: "Number i of the told ones. NoSuchElementException: none such." */
    private static void rowsAtTheEnds() {
        HopCourts none = new HopCourts();
        for (int i : new int[] {-1, 0, 1, Integer.MIN_VALUE, Integer.MAX_VALUE}) {
            Check.noSuch("49: nothing is told", () -> none.row(i));
        }
        HopCourts x = Check.made("11111111", "10");
        Check.due("18: nine HOPS", x.hop(0, 8), 9);
        for (int i = 0; i < 8; i++) {
            Check.due("49: " + i, x.row(i), i);
        }
        for (int i : new int[] {-1, 8, 9, Integer.MIN_VALUE, Integer.MAX_VALUE}) {
            Check.noSuch("49: " + i, () -> x.row(i));
        }
        Check.due("48: numbers that are told", x.count(10), 8);
        Check.due("49: asked oftener", x.row(7), 7);
        none.hits(8, 0, 1);
        Check.due("49: a large one", none.row(1), 100000000);
    }

    /** Terms 2: "numbers told last by a call that says so". */
    private static void fewerTakeThePlaceOfMore() {
        HopCourts x = Check.made("11111111", "10;40");
        x.hop(0, 8);
        Check.due("48: 8", x.count(10), 8);
        Check.due("18: fewer", x, x.hop(1, 8), 3, 0, 4);
        Check.noSuch("49: the third is gone", () -> x.row(2));
        Check.due("20: one", x, x.traps(1), 0, 0);
        Check.noSuch("49: the second is gone", () -> x.row(1));
        Check.due("22: none", x, x.gap(0), 0);
        Check.noSuch("49: the first is gone", () -> x.row(0));
        Check.due("19: none behind some", x, x.ways(1, 8) > 0 ? 1 : 0, 1, 8, 2);
        Check.due("19: nothing without", x, x.ways(0, 3), 0);
        Check.due("42: some", x, x.dare(0, 1), 1, 0);
        Check.due("42: nothing without", x, x.dare(0, 2), 0);
    }

    /** Terms 2: "the told numbers stay .. with calls that do not tell any". */
    private static void callsThatTellNothing() {
        HopCourts x = made("12", "40;40", "0");
        x.plays(9);
        x.rests(18);
        Twin.Call[] calls = {y -> y.sign(0), y -> y.end(0) ? 1 : 0, y -> y.court() < 0 ? 1 : 0, y -> y.players(),
            y -> y.rule(), y -> y.square(0, 0), y -> y.player(0, 0), y -> y.sheet(2, 1, 1, 1), y -> y.passes(),
            y -> y.takes(0, 0), y -> y.leaves(0, 0), y -> y.grows(0, 1), y -> y.undo(), y -> y.heard(0, 1), y -> y.forget(),
            y -> y.saw(0, 1), y -> y.denies(), y -> y.keep(0) ? 1 : 0, y -> y.again(0) ? 1 : 0, y -> y.count(0),
            y -> y.row(0)};
        for (int i = 0; i < calls.length; i++) {
            Check.due("call " + i + " is done", calls[i].on(x) >= 0, true);
            Check.due("call " + i + " tells nothing", x, 0, 0, 9, 9);
        }
        Check.due("4: court() tells nothing", x, Check.court(x, "1"), 1, 9, 9);
        Check.due("5: players() tells nothing", x, Check.players(x, "11"), 1, 9, 9);
        Check.due("6: rule() tells nothing", x, Check.rule(x, "1"), 0, 9, 9);
    }
}
