/** Promises 1 to 9: a new object, texts, courts, players, rules, what is told of them, sheets. */
public final class CourtsPlayersTest {
    public static void main(String[] args) {
        newObject();
        signs();
        courts();
        lines();
        linesWithoutRoom();
        wrongRules();
        ruleValues();
        squares();
        playersTold();
        sheets();
        Check.end("CourtsPlayersTest");
    }

    private static void newObject() {
        HopCourts x = new HopCourts();
        int[] due = {3, 4, 0, 0, 0, 0, 0, 0, 0, 0, 0, 0};
        for (int what = 0; what < due.length; what++) {
            Check.due("new: count(" + what + ")", x.count(what), due[what]);
        }
        Check.due("new: row of square 0", x.square(0, 0), 0);
        Check.due("new: row of square 2", x.square(2, 0), 1);
        Check.due("new: row of square 3", x.square(3, 0), 2);
        Check.noSuch("new: player(0, 0)", () -> x.player(0, 0));
        Check.due("new: undo", x.undo(), -1);
        Check.due("new: again", x.again(0), false);
    }

    private static void signs() {
        HopCourts x = new HopCourts();
        for (int i = 1; i <= 20; i++) {
            Check.due("sign " + i, x.sign(0x31323132), 4 * i);
        }
        Check.due("sign above 80", x.sign(0), -1);
        Check.due("signs stay", x.count(11), 80);
        Check.due("end below 0", x.end(-1), false);
        Check.due("end above", x.end(81), false);
        Check.due("end 80", x.end(80), true);
        Check.due("end 77", x.end(77), true);
        Check.due("sign would be 81", x.sign(0), -1);
        Check.due("end 76", x.end(76), true);
        Check.due("sign again", x.sign(0), 80);
        Check.due("end 3", x.end(3), true);
        Check.due("end 4 of 3", x.end(4), false);
        Check.due("the highest byte first: 121 less its end", x.court(), 4);
        Check.due("text is read", x.count(11), 0);
        Check.due("end 0 of 0", x.end(0), true);
        Check.due("end 1 of 0", x.end(1), false);
        x.sign(0xB1323132);
        x.end(1);
        Check.due("a sign above 127 is no 1", x.court(), -1);
    }

    private static void courts() {
        HopCourts x = Check.made("121", "10;20");
        Check.rule(x, "1");
        x.throwsOne();
        x.keep(0);
        x.heard(0, 1);
        x.saw(0, 0);
        String[] wrong = {"", "x", "0", "3", "1;1", "12121212 ", "111111111", "1111111111", "1111x1111", "12\u00001"};
        int[] at = {0, 0, 0, 0, 1, 8, 8, 8, 4, 2};
        for (int i = 0; i < wrong.length; i++) {
            Check.due("court " + wrong[i], x, Check.court(x, wrong[i]), -1 - at[i], 101, 1);
            Check.due("its text is gone", x.count(11), 0);
        }
        int[] stay = {3, 4, 2, 1, 1, 1, 0, 1, 1, 1};
        for (int what = 0; what < stay.length; what++) {
            Check.due("refused: count(" + what + ")", x.count(what), stay[what]);
        }
        Check.due("court 22222222", x, Check.court(x, "22222222"), 16, 101, 1);
        int[] anew = {8, 16, 0, 0, 0, 0, 0, 0, 0, 0, 2, 0};
        for (int what = 0; what < anew.length; what++) {
            Check.due("anew: count(" + what + ")", x.count(what), anew[what]);
        }
        Check.due("nothing is kept", x.again(0), false);
        Check.due("undo", x.undo(), -1);
        Check.due("one row", Check.court(x, "2"), 2);
        Check.due("rows", x.count(0), 1);
        Check.players(x, "19");
        Check.due("the rule stays", x.player(0, 7), 11);
        Check.due("no faults of former players", x.player(0, 5), 0);
    }

    private static void lines() {
        HopCourts x = new HopCourts();
        String[] wrong = {"1", "0", "5", "10;", "10;1", "10;5", "1;", "1x", "10,", "10;20;30;40;", "10;20;30;40x",
            "10;20;30;405", "10;20;x0;40;", "10;20;30;4", ";", " 10", "10;20;30;40;1", "1010"};
        int[] at = {1, 0, 0, 3, 4, 3, 1, 1, 2, 11, 11, 11, 6, 10, 0, 0, 11, 2};
        for (int i = 0; i < wrong.length; i++) {
            Check.due("players " + wrong[i], Check.players(x, wrong[i]), -1 - at[i]);
            Check.due("none came", x.count(2), 0);
            Check.due("the text is gone", x.count(11), 0);
        }
        Check.due("none told", Check.players(x, ""), 0);
        Check.due("four", Check.players(x, "10;29;35;47"), 4);
        Check.due("count", x.count(2), 4);
        for (int i = 0; i < 4; i++) {
            Check.due("reach", x.player(i, 0), i + 1);
            Check.due("aim", x.player(i, 1), new int[] {0, 9, 5, 7}[i]);
            for (int what = 2; what <= 6; what++) {
                Check.due("at first 0", x.player(i, what), 0);
            }
        }
    }

    private static void linesWithoutRoom() {
        HopCourts x = Check.made("1", "10;10");
        x.keep(1);
        x.passes();
        Check.due("no room for the third", Check.players(x, "10;10;10"), -7);
        Check.due("no room, then a wrong sign", Check.players(x, "10;10;1x"), -7);
        Check.due("a wrong sign, then no room", Check.players(x, "10;x0;10"), -4);
        Check.due("no room ahead of the twelfth sign", Check.players(x, "10;10;10;10;"), -7);
        Check.due("nothing came", x.count(2), 2);
        Check.due("undo is left", x.count(9), 1);
        Check.due("an empty one", Check.players(x, ""), 0);
        Check.due("undo is left behind an empty one", x.count(9), 1);
        Check.due("the kept one is left behind an empty one", x.again(1), true);
        x.passes();
        Check.due("one more", Check.players(x, "34"), 1);
        Check.due("count", x.count(2), 3);
        Check.due("reach of the new one", x.player(2, 0), 3);
        Check.due("undo is forgotten", x.undo(), -1);
        Check.due("the kept one is forgotten", x.again(1), false);
        Check.due("TURN stays", x.count(3), 1);
        Check.due("the fourth", Check.players(x, "11"), 1);
        Check.due("no room at all", Check.players(x, "11"), -1);
        Check.due("no room at all, ends early", Check.players(x, "1"), -1);
        Check.due("no room, but nothing told", Check.players(x, ""), 0);
    }

    private static void wrongRules() {
        HopCourts x = Check.made("1", "10");
        Check.rule(x, "2");
        String forty = "1+1+1+1+1+1+1+1+1+1+1+1+1+1+1+1+1+1+1+1+";
        String[] wrong = {"z", "a+", "a<n<r", "a<n=1", "(a", "(((((a)))))", "1000", "a b", "()", ")", "a)", "(a))",
            "+a", "*a", "a**2", "a*/2", "aa", "1a", "a1", "-", "a--", "<a", "a<", "(a<n)<(n<a)<1", "(1<2<3)",
            "((((1))))(", "1(", "N", "(1", "a+(", forty, forty + "1", forty + "x", forty + "+", forty + "1+1",
            forty.substring(0, 38) + "(1+", forty.substring(0, 36) + "x+1+1+1"};
        int[] at = {0, 2, 3, 3, 2, 4, 3, 1, 1, 0, 1, 3,
            0, 0, 2, 2, 1, 1, 1, 1, 3, 0, 2, 11, 4,
            9, 1, 0, 2, 3, 40, 40, 40, 40, 40,
            40, 36};
        for (int i = 0; i < wrong.length; i++) {
            Check.due("rule " + wrong[i], Check.rule(x, wrong[i]), -1 - at[i]);
            Check.due("the text is gone", x.count(11), 0);
            Check.due("the rule stays", x.player(0, 7), 12);
        }
        Check.due("39 signs", Check.rule(x, forty.substring(0, 39)), 0);
        Check.due("20 is put to 3", x.player(0, 7), 13);
        Check.due("40 signs", Check.rule(x, "-" + forty.substring(0, 39)), 0);
        Check.due("four brackets", Check.rule(x, "((((1))))"), 0);
        Check.due("brackets by brackets", Check.rule(x, "(((1)))*((((2))))"), 0);
        Check.due("2", x.player(0, 7), 12);
        Check.due("none", Check.rule(x, ""), 0);
        Check.due("n>a: 0>0", x.player(0, 7), 10);
        x.throwsOne();
        Check.due("n>a: 1>0", x.player(0, 7), 11);
    }

    private static void ruleValues() {
        HopCourts x = Check.made("121", "15;29;37");
        // Player 1 takes HOUSES in SQUARES 0 and 1 by two rounds without a fault.
        Check.rule(x, "0");
        x.passes();
        x.plays(8);
        x.takes(1, 0);
        x.takes(1, 1);
        Check.rule(x, "1");
        x.throwsOne();
        x.throwsOne();
        // THROWS 10, n 3; player 0: a 5, t 2, r 1, h 0, f 0; player 1: a 9, t 0, r 0, h 2, f 1; player 2: t 2, f 1.
        value(x, 0, "a-4", 1);
        value(x, 0, "t", 2);
        value(x, 0, "r", 1);
        value(x, 1, "t+r", 0);
        value(x, 0, "h", 0);
        value(x, 1, "h", 2);
        value(x, 0, "f", 0);
        value(x, 1, "f", 1);
        value(x, 2, "i", 2);
        value(x, 2, "n", 3);
        value(x, 0, "7", 3);
        value(x, 0, "-7", -3);
        value(x, 0, "--2", 2);
        value(x, 0, "---2", -2);
        value(x, 0, "1--1", 2);
        value(x, 0, "2*-1", -2);
        value(x, 0, "-7/2+1", -2);
        value(x, 0, "-(7/2)", -3);
        value(x, 0, "(-7)/4", -1);
        value(x, 0, "7/-4", -1);
        value(x, 0, "5/0", 0);
        value(x, 0, "5/(a-5)+1", 1);
        value(x, 0, "1-1-1", -1);
        value(x, 0, "8/2/2", 2);
        value(x, 0, "9/2*2-7", 1);
        value(x, 0, "2*9/9", 2);
        value(x, 0, "1+2*3-5", 2);
        value(x, 0, "(1+2)*3-7", 2);
        value(x, 0, "a=5", 1);
        value(x, 0, "a=6", 0);
        value(x, 0, "a<6", 1);
        value(x, 0, "a<5", 0);
        value(x, 0, "a>4", 1);
        value(x, 0, "a>5", 0);
        value(x, 0, "1+1<1+2", 1);
        value(x, 0, "(1<2)+(2<3)", 2);
        value(x, 0, "(1<2)<2", 1);
        value(x, 0, "007-5", 2);
        value(x, 0, "999-998", 1);
        value(x, 0, "999*999*999*999", -3);
        value(x, 0, "999*999*999*999>0", 0);
        value(x, 0, "256*256*256*128", -3);
        value(x, 0, "256*256*256*128/-1", -3);
        value(x, 0, "256*256*256*256+1", 1);
    }

    private static void value(HopCourts x, int player, String rule, int off) {
        Check.due("rule " + rule, Check.rule(x, rule), 0);
        Check.due("OFF by " + rule, x.player(player, 7), 10 + off);
    }

    private static void squares() {
        HopCourts x = Check.made("212", "20;20");
        Check.rule(x, "0");
        int[] rows = {0, 0, 1, 2, 2};
        for (int i = 0; i < 5; i++) {
            Check.due("row", x.square(i, 0), rows[i]);
            Check.due("nobody's", x.square(i, 1), 4);
            Check.due("goals", x.square(i, 2), i == 0 ? 3 : 0);
        }
        Check.noSuch("square(-1, 0)", () -> x.square(-1, 0));
        Check.noSuch("square(5, 0)", () -> x.square(5, 0));
        Check.noSuch("square(0, 3)", () -> x.square(0, 3));
        Check.noSuch("square(0, -1)", () -> x.square(0, -1));
        x.plays(6);
        x.takes(0, 0);
        Check.due("whose", x.square(0, 1), 0);
        Check.due("goal of player 1", x.square(1, 2), 3);
        Check.due("goal of none", x.square(0, 2), 0);
    }

    private static void playersTold() {
        HopCourts x = Check.made("11", "23;47");
        Check.due("goal", x.player(1, 3), 0);
        Check.rule(x, "i*3-1");
        Check.due("off", x.player(0, 7), 9);
        Check.due("off", x.player(1, 7), 12);
        Check.rule(x, "0");
        x.plays(3);
        Check.due("place", x.player(0, 2), 1);
        Check.due("rights", x.player(0, 6), 1);
        x.takes(0, 1);
        Check.due("houses", x.player(0, 4), 2);
        Check.due("rights less", x.player(0, 6), 0);
        Check.rule(x, "1");
        x.plays(2);
        Check.due("faults", x.player(1, 5), 1);
        Check.noSuch("player(-1, 0)", () -> x.player(-1, 0));
        Check.noSuch("player(2, 0)", () -> x.player(2, 0));
        Check.noSuch("player(0, 8)", () -> x.player(0, 8));
        Check.noSuch("player(0, -1)", () -> x.player(0, -1));
        // With every SQUARE from his PLACE on another one's, GOAL is how many there are.
        HopCourts y = Check.made("11", "20;20");
        Check.rule(y, "0");
        y.plays(4);
        y.takes(0, 0);
        y.takes(0, 1);
        Check.due("no goal", y.player(1, 3), 2);
        Check.due("own houses are goals", y.player(0, 3), 0);
        Check.rule(y, "r");
        Check.due("row of no goal", y.player(1, 7), 12);
    }

    private static void sheets() {
        HopCourts x = Check.made("1", "11;22;33");
        Check.due("ints", x.sheet(2, 3, 2, 3), 2 + 5 + 8);
        Check.due("aim", x.player(2, 1), 8);
        Check.due("fewer entries", x.sheet(2, 1, 7, 1), 7);
        Check.due("behind it 0", x.player(1, 1), 0);
        Check.due("none", x.sheet(2, 0, 7, 1), 0);
        Check.due("put to 0 .. 9", x.sheet(2, 3, -5, 10), 0 + 5 + 9);
        Check.due("bytes", x.sheet(0, 3, 255, 1), 0 + 0 + 1);
        Check.due("bytes with their sign", x.sheet(0, 2, 128, 130), 0 + 2);
        Check.due("shorts", x.sheet(1, 3, 65536 + 3, 65535), 3 + 2 + 1);
        Check.due("shorts with their sign", x.sheet(1, 2, 32768, 1), 0);
        Check.due("shorts above bytes", x.sheet(1, 2, 255, 1), 18);
        Check.due("ints go round", x.sheet(2, 3, Integer.MAX_VALUE, 1), 9 + 0 + 0);
        Check.due("more entries than players", x.sheet(2, 4, 1, 1), 1 + 2 + 3);
        Check.due("n below 0", x.sheet(0, -1, 1, 1), -2);
        Check.due("n below 0, shorts", x.sheet(1, Integer.MIN_VALUE, 1, 1), -2);
        Check.due("n below 0, ints", x.sheet(2, -4, 1, 1), -2);
        Check.due("n above 4", x.sheet(0, 5, 1, 1), -1);
        Check.due("another kind", x.sheet(4, 1, 1, 1), -1);
        Check.due("another kind", x.sheet(-1, -1, 1, 1), -1);
        Check.due("missing, n above 4", x.sheet(3, 5, 1, 1), -1);
        Check.due("nothing has changed", x.player(1, 1), 2);
        Check.due("missing", x.sheet(3, -1, 1, 1), -3);
        Check.due("all 0", x.player(0, 1) + x.player(1, 1) + x.player(2, 1), 0);
        Check.due("nothing to undo", x.count(9), 0);
        x.sheet(2, 3, 4, 1);
        x.passes();
        x.sheet(2, 3, 7, 0);
        Check.due("undo", x.undo(), 0);
        Check.due("aims as ahead of what is undone", x.player(0, 1) * 100 + x.player(1, 1) * 10 + x.player(2, 1), 456);
        Check.due("without players", new HopCourts().sheet(2, 4, 5, 5), 0);
        Check.due("without players, missing", new HopCourts().sheet(3, 0, 5, 5), -3);
    }
}
