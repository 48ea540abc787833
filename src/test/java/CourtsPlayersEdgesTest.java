import java.util.List;

/** Promises 1 to 9: each sentence that names an edge, by itself. */
public final class CourtsPlayersEdgesTest {
    public static void main(String[] args) {
        newObjectsShareNothing();
        signsComeBehind();
        signsAreFull();
        endsAreCut();
        courtsByLength();
        courtSigns();
        ninthSign();
        courtAnew();
        playersBySign();
        playersEndTooEarly();
        playersHaveMoreThanEleven();
        playersWithoutRoom();
        playersComeBehind();
        squaresTold();
        playersTold();
        sheetEntries();
        sheetRefusals();
        sheetsAndUndo();
        Check.end("CourtsPlayersEdgesTest");
    }

    /** 1: "The court 121; no PLAYERS." */
    private static void newObjectsShareNothing() {
        HopCourts x = new HopCourts();
        List<Long> first = Twin.seen(x);
        HopCourts other = Twin.rich();
        other.throwsOne();
        Check.due("1: an object stays as another one changes", Twin.seen(x).equals(first), true);
        Check.due("1: a later one is new, too", Twin.seen(new HopCourts()).equals(first), true);
        Check.due("1: rows", x.count(0), 3);
        Check.due("1: squares", x.count(1), 4);
        int[] rows = {0, 1, 1, 2};
        for (int square = 0; square < 4; square++) {
            Check.due("1: row of " + square, x.square(square, 0), rows[square]);
        }
        Check.noSuch("1: square(4, 0)", () -> x.square(4, 0));
        Check.due("1: no PLAYERS", x.count(2), 0);
        // Terms 1: "THE RULE .. (at first none: n>a)".
        Check.players(x, "21");
        Check.due("n>a: 0 > 1", x.player(0, 7), 10);
        x.plays(1);
        Check.due("n>a: 1 > 1", x.player(0, 7), 10);
        x.plays(1);
        Check.due("n>a: 2 > 1", x.player(0, 7), 11);
    }

    /** 2: "Four signs come behind THE TEXT, of v the highest byte first: how many it has." */
    private static void signsComeBehind() {
        HopCourts x = new HopCourts();
        Check.due("2: four", x.sign(0x31323132), 4);
        Check.due("2: four more", x.sign(0x32323258), 8);
        Check.due("2: the eighth is wrong, the lowest byte", x.court(), -8);
        x.sign(0x58313131);
        Check.due("2: the first is wrong, the highest byte", x.court(), -1);
        x.sign(0x31583131);
        Check.due("2: the second", x.court(), -2);
        x.sign(0x31315831);
        Check.due("2: the third", x.court(), -3);
        x.sign(0x31323100);
        Check.due("2: a sign 0 is one", x.court(), -4);
        x.sign(0x31323100);
        x.end(2);
        Check.due("2: behind what end() left", x.sign(0x32323131), 6);
        Check.due("2: 122211", x.court(), 9);
        x.sign(-1);
        Check.due("2: signs of 255", x.count(11), 4);
        Check.due("2: can't stand", x.court(), -1);
        x.sign(0x31B13131);
        Check.due("2: of a byte all 8 bits count", x.court(), -2);
    }

    /** 2: "Refused: there would be more than 80." */
    private static void signsAreFull() {
        for (int many = 73; many <= 80; many++) {
            HopCourts x = new HopCourts();
            for (int i = 0; i < 20; i++) {
                x.sign(0x31313131);
            }
            Check.due("2: cut", x.end(many), true);
            boolean room = many <= 76;
            Check.due("2: 4 behind " + many, x.sign(0x31313131), room ? many + 4 : -1);
            Check.due("2: then", x.count(11), room ? many + 4 : many);
        }
    }

    /** 3: "THE TEXT has its first n signs alone: true; false if it has not so many, or n is below 0." */
    private static void endsAreCut() {
        HopCourts x = new HopCourts();
        Check.due("3: none of none", x.end(0), true);
        Check.due("3: one of none", x.end(1), false);
        x.sign(0x32315831);
        Check.due("3: five of four", x.end(5), false);
        Check.due("3: -1", x.end(-1), false);
        Check.due("3: the least int", x.end(Integer.MIN_VALUE), false);
        Check.due("3: the most", x.end(Integer.MAX_VALUE), false);
        Check.due("3: as it was", x.count(11), 4);
        Check.due("3: all four", x.end(4), true);
        Check.due("3: as it was", x.count(11), 4);
        Check.due("3: two", x.end(2), true);
        Check.due("3: two are left", x.count(11), 2);
        Check.due("3: the third is gone", x.end(3), false);
        Check.due("3: the first two: 21", x.court(), 3);
        Check.due("3: rows", x.count(0), 2);
        x.sign(0x31313131);
        Check.due("3: none", x.end(0), true);
        Check.due("3: none is left", x.count(11), 0);
    }

    /** Terms 1: "a text of 1 to 8 signs 1 or 2 (a ROW each)", "SQUARES 0, 1, .. by ROWS". */
    private static void courtsByLength() {
        String ones = "11111111";
        String twos = "22222222";
        for (int rows = 1; rows <= 8; rows++) {
            HopCourts x = new HopCourts();
            Check.due("4: ones", Check.court(x, ones.substring(0, rows)), rows);
            Check.due("4: rows", x.count(0), rows);
            Check.due("4: row of the last", x.square(rows - 1, 0), rows - 1);
            Check.due("4: twos", Check.court(x, twos.substring(0, rows)), 2 * rows);
            Check.due("4: rows", x.count(0), rows);
            Check.due("4: squares", x.count(1), 2 * rows);
            for (int square = 0; square < 2 * rows; square++) {
                Check.due("4: row of " + square, x.square(square, 0), square / 2);
            }
            int all = 2 * rows;
            Check.noSuch("4: square " + all, () -> x.square(all, 0));
        }
        HopCourts x = new HopCourts();
        Check.due("4: 21121222", Check.court(x, "21121222"), 13);
        int[] rows = {0, 0, 1, 2, 3, 3, 4, 5, 5, 6, 6, 7, 7};
        for (int square = 0; square < rows.length; square++) {
            Check.due("4: row of " + square, x.square(square, 0), rows[square]);
        }
    }

    /** 4: "-1 - p: the sign at p can't stand there (its end for none ..)". */
    private static void courtSigns() {
        HopCourts x = new HopCourts();
        Check.due("4: its end for none", Check.court(x, ""), -1);
        for (int at = 0; at < 8; at++) {
            for (int sign = 0; sign < 256; sign++) {
                HopCourts y = new HopCourts();
                String text = "12121212".substring(0, at) + (char) sign;
                boolean stands = sign == '1' || sign == '2';
                int squares = at / 2 * 3 + at % 2 + sign - '0';
                Check.due("4: sign " + sign + " at " + at, Check.court(y, text), stands ? squares : -1 - at);
                Check.due("4: THE TEXT is empty", y.count(11), 0);
            }
        }
        Check.due("4: the first of two that can't stand", Check.court(x, "1x1x1"), -2);
    }

    /** 4: "a ninth sign: at it". */
    private static void ninthSign() {
        HopCourts x = new HopCourts();
        String[] nine = {"111111111", "222222221", "12121212x", "11111111\u0000", "1111111111", "1111111111111111"};
        for (String text : nine) {
            Check.due("4: " + text, Check.court(x, text), -9);
        }
        Check.due("4: a sign ahead of it can't stand", Check.court(x, "1111111x1"), -8);
        Check.due("4: the first one can't", Check.court(x, "x11111111"), -1);
        String eighty = "1".repeat(80);
        Check.due("4: 80 signs", Check.court(x, eighty), -9);
        Check.due("4: the court stays", x.count(1), 4);
    }

    /** 4: "there are no PLAYERS then, TURN and THROWS are 0, nothing can be undone, nothing is kept, .." */
    private static void courtAnew() {
        HopCourts x = Twin.rich();
        x.passes();
        Check.due("4: TURN is not 0", x.count(3) > 0, true);
        Check.due("4: the same court, too", Check.court(x, "1212"), 6);
        int[] due = {4, 6, 0, 0, 0, 0, 0, 0, 0, 0, 3, 0};
        for (int what = 0; what < due.length; what++) {
            Check.due("4: count(" + what + ")", x.count(what), due[what]);
        }
        Check.due("4: nothing can be undone", x.undo(), -1);
        Check.due("4: nothing is kept under 0", x.again(0), false);
        Check.due("4: nothing is kept under 1", x.again(1), false);
        Check.due("4: nothing was seen", x.laws(), 49);
        for (int square = 0; square < 6; square++) {
            Check.due("4: nobody's", x.square(square, 1), 4);
        }
        Check.players(x, "10;10;10;10");
        Check.due("4: nothing was heard", x.fits(), 15);
        for (int player = 0; player < 4; player++) {
            for (int what = 2; what <= 6; what++) {
                Check.due("4: PLAYERS are as at first", x.player(player, what), 0);
            }
        }
        x.plays(5);
        Check.due("4: THE RULE stays (n=5)", x.player(0, 7), 11);
    }

    /** Terms 1: "a digit 1 .. 4 (REACH), a digit (AIM)", "LINES with ; between". */
    private static void playersBySign() {
        for (int sign = 0; sign < 256; sign++) {
            HopCourts x = new HopCourts();
            char c = (char) sign;
            boolean reach = c >= '1' && c <= '4';
            boolean digit = c >= '0' && c <= '9';
            Check.due("5: REACH " + sign, Check.players(x, c + "5"), reach ? 1 : -1);
            Check.due("5: it comes", x.count(2), reach ? 1 : 0);
            Check.court(x, "1");
            Check.due("5: AIM " + sign, Check.players(x, "3" + c), digit ? 1 : -2);
            Check.court(x, "1");
            Check.due("5: between " + sign, Check.players(x, "35" + c + "46"), c == ';' ? 2 : -3);
            Check.court(x, "1");
            Check.due("5: REACH of the next " + sign, Check.players(x, "35;" + c + "6"), reach ? 2 : -4);
            Check.due("5: nothing of it comes, if a LINE can't", x.count(2), reach ? 2 : 0);
        }
    }

    /** 5: "its end, if it ends too early". */
    private static void playersEndTooEarly() {
        String four = "19;28;37;46";
        for (int length = 0; length <= 11; length++) {
            HopCourts x = new HopCourts();
            boolean whole = length % 3 == 2 || length == 0;
            int lines = (length + 1) / 3;
            Check.due("5: " + length + " signs", Check.players(x, four.substring(0, length)), whole ? lines : -1 - length);
            Check.due("5: how many came", x.count(2), whole ? lines : 0);
            Check.due("5: THE TEXT is empty", x.count(11), 0);
        }
    }

    /** 5: "11, if it has more and the first 11 could go on or end". */
    private static void playersHaveMoreThanEleven() {
        String four = "19;28;37;46";
        HopCourts x = new HopCourts();
        String[] more = {";", "x", "1", ";1", ";10", ";10;10;10", "\u0000"};
        for (String behind : more) {
            Check.due("5: 11 and " + behind, Check.players(x, four + behind), -12);
        }
        Check.due("5: 80 signs", Check.players(x, (four + ";").repeat(7).substring(0, 80)), -12);
        Check.due("5: the first 11 can't go on", Check.players(x, "19;28;37;4x;"), -11);
        Check.due("5: the first 11 can't go on", Check.players(x, "19;28;37:46;"), -9);
        Check.due("5: the first can't", Check.players(x, "09;28;37;46;"), -1);
        Check.due("5: none came", x.count(2), 0);
        Check.due("5: 11", Check.players(x, four), 4);
    }

    /** 5: "the first sign of a LINE for which there is no room", "Nothing of it comes, if a LINE can't." */
    private static void playersWithoutRoom() {
        String four = "19;28;37;46";
        for (int there = 1; there <= 4; there++) {
            HopCourts x = new HopCourts();
            Check.due("5: there are", Check.players(x, four.substring(0, 3 * there - 1)), there);
            int room = 4 - there;
            for (int lines = 4; lines > room; lines--) {
                Check.due("5: " + lines + " LINES, " + there + " are there",
                    Check.players(x, four.substring(0, 3 * lines - 1)), -1 - 3 * room);
                Check.due("5: nothing of it comes", x.count(2), there);
            }
            if (room > 0) {
                String fit = four.substring(0, 3 * room - 1);
                Check.due("5: ; behind the last that has room", Check.players(x, fit + ";"), -1 - 3 * room);
                Check.due("5: as many as have room", Check.players(x, fit), room);
                Check.due("5: all are there", x.count(2), 4);
            }
            Check.due("5: an empty one: nothing", Check.players(x, ""), 0);
            Check.due("5: none has room", Check.players(x, "11"), -1);
        }
    }

    /** Terms 1: "each one more"; 17: "an empty players() does not" forget. */
    private static void playersComeBehind() {
        HopCourts x = Check.made("12", "25;31");
        Check.rule(x, "0");
        x.plays(4);
        x.passes();
        x.takes(0, 2);
        x.keep(0);
        List<Long> before = Twin.seen(x);
        Check.due("5: an empty one: nothing", Check.players(x, ""), 0);
        Check.due("5: all is as it was", Twin.seen(x).equals(before), true);
        Check.due("5: what can be undone is", x.count(9), 3);
        Check.due("5: one more", Check.players(x, "47"), 1);
        int[][] due = {{2, 5, 1, 1, 4, 0, 0}, {3, 1, 0, 0, 0, 0, 0}, {4, 7, 0, 0, 0, 0, 0}};
        for (int player = 0; player < 3; player++) {
            for (int what = 0; what < 7; what++) {
                Check.due("5: player " + player + ", " + what, x.player(player, what), due[player][what]);
            }
        }
        Check.due("5: TURN stays", x.count(3), 1);
        Check.due("5: THROWS stay", x.count(4), 4);
        Check.due("5: nothing can be undone", x.count(9), 0);
        Check.due("5: nothing is kept", x.again(0), false);
        x.passes();
        Check.due("5: his TURN comes", x.count(3), 2);
        Check.due("5: then 0", x.passes(), 0);
    }

    /** 7: "Of a SQUARE, what 0: its ROW, 1: whose HOUSE it is (4: nobody's), 2: PLAYERS whose GOAL it is (bits)." */
    private static void squaresTold() {
        HopCourts x = Check.made("112", "40;40;40;40");
        Check.rule(x, "0");
        Check.due("7: GOAL of all", x.square(0, 2), 15);
        Check.due("7: GOAL of none", x.square(3, 2), 0);
        x.passes();
        x.passes();
        x.passes();
        x.plays(8);
        x.takes(3, 0);
        x.takes(3, 3);
        Check.due("7: whose", x.square(0, 1), 3);
        Check.due("7: whose", x.square(3, 1), 3);
        Check.due("7: nobody's", x.square(1, 1), 4);
        Check.due("7: GOAL of the owner", x.square(0, 2), 8);
        Check.due("7: GOAL of the others", x.square(1, 2), 7);
        // Player 0 stands at SQUARE 2 and has it left alone: taken, too, it leaves him no GOAL.
        x.passes();
        x.plays(1);
        Check.due("7: GOAL 2", x.square(2, 2), 1);
        x.passes();
        x.passes();
        x.passes();
        x.plays(4);
        x.takes(3, 2);
        for (int square = 0; square < 4; square++) {
            Check.due("7: no GOAL is at no SQUARE", x.square(square, 2) & 1, 0);
        }
        Check.due("8: GOAL: how many SQUARES", x.player(0, 3), 4);
        for (int what : new int[] {-1, 3, 4, Integer.MIN_VALUE, Integer.MAX_VALUE}) {
            Check.noSuch("7: another what", () -> x.square(0, what));
        }
        for (int square : new int[] {-1, 4, 5, Integer.MIN_VALUE, Integer.MAX_VALUE}) {
            Check.noSuch("7: none such", () -> x.square(square, 1));
        }
        Check.noSuch("7: neither", () -> x.square(4, 3));
    }

    /** 8: "Of a player, .. 7: 10 and OFF now. NoSuchElementException: likewise." */
    private static void playersTold() {
        HopCourts x = Check.made("1", "19;28;37;46");
        for (int player = 0; player < 4; player++) {
            Check.due("8: REACH", x.player(player, 0), 1 + player);
            Check.due("8: AIM", x.player(player, 1), 9 - player);
        }
        String[] rules = {"0-4", "0-3", "0-1", "0", "1", "3", "4"};
        int[] off = {7, 7, 9, 10, 11, 13, 13};
        for (int i = 0; i < rules.length; i++) {
            Check.rule(x, rules[i]);
            Check.due("8: 10 and OFF by " + rules[i], x.player(3, 7), off[i]);
        }
        for (int what : new int[] {-1, 8, 9, Integer.MIN_VALUE, Integer.MAX_VALUE}) {
            Check.noSuch("8: another what", () -> x.player(0, what));
        }
        for (int player : new int[] {-1, 4, 5, Integer.MIN_VALUE, Integer.MAX_VALUE}) {
            Check.noSuch("8: none such", () -> x.player(player, 0));
        }
        Check.noSuch("8: neither", () -> x.player(4, 8));
        HopCourts fewer = Check.made("1", "19");
        Check.noSuch("8: of one", () -> fewer.player(1, 0));
        Check.noSuch("8: of none", () -> new HopCourts().player(0, 0));
    }

    /** 9: "of bytes, shorts the lowest bits, with their sign; put to 0 .. 9", "those behind it have 0: the sum of all". */
    private static void sheetEntries() {
        int[] bytes = {-1, 0, 1, 9, 10, 127, 128, 200, 255, 256, 257, 265, 266, 511, 512, 65536 + 4, -256, -251, -129, -128};
        int[] byteAims = {0, 0, 1, 9, 9, 9, 0, 0, 0, 0, 1, 9, 9, 0, 0, 4, 0, 5, 9, 0};
        HopCourts x = Check.made("1", "45;45;45;45");
        for (int i = 0; i < bytes.length; i++) {
            entry(x, 0, bytes[i], byteAims[i]);
        }
        int[] shorts = {-1, 0, 9, 10, 127, 128, 255, 256, 32767, 32768, 65535, 65536, 65537, 65545, 65546, -32768, -32769,
            -65536, -65531, 1 << 20};
        int[] shortAims = {0, 0, 9, 9, 9, 9, 9, 9, 9, 0, 0, 0, 1, 9, 9, 0, 9, 0, 5, 0};
        for (int i = 0; i < shorts.length; i++) {
            entry(x, 1, shorts[i], shortAims[i]);
        }
        int[] ints = {-1, 0, 1, 9, 10, 128, 32768, 65536, Integer.MAX_VALUE, Integer.MIN_VALUE};
        int[] intAims = {0, 0, 1, 9, 9, 9, 9, 9, 9, 0};
        for (int i = 0; i < ints.length; i++) {
            entry(x, 2, ints[i], intAims[i]);
        }
        aims(x, x.sheet(2, 4, 2, 2), 2, 4, 6, 8);
        aims(x, x.sheet(2, 4, 7, -3), 7, 4, 1, 0);
        aims(x, x.sheet(0, 4, 254, 2), 0, 0, 2, 4);
        aims(x, x.sheet(1, 4, 65534, 3), 0, 1, 4, 7);
        aims(x, x.sheet(2, 4, Integer.MAX_VALUE, Integer.MAX_VALUE), 9, 0, 9, 0);
        aims(x, x.sheet(2, 3, 3, 0), 3, 3, 3, 0);
        aims(x, x.sheet(2, 0, 3, 0), 0, 0, 0, 0);
        aims(x, x.sheet(2, 4, 3, 0), 3, 3, 3, 3);
    }

    private static void entry(HopCourts x, int kind, int f, int aim) {
        Check.due("9: kind " + kind + ", entry " + f, x.sheet(kind, 1, f, 0), aim);
        Check.due("9: AIM", x.player(0, 1), aim);
        Check.due("9: those behind it have 0", x.player(1, 1) + x.player(2, 1) + x.player(3, 1), 0);
    }

    private static void aims(HopCourts x, int answer, int... due) {
        int sum = 0;
        for (int player = 0; player < 4; player++) {
            Check.due("9: AIM of " + player, x.player(player, 1), due[player]);
            sum += due[player];
        }
        Check.due("9: the sum of all", answer, sum);
    }

    /** 9: "-2: n below 0 (of kinds 0 .. 2; nothing changes); -3: missing (all 0). NONE: another kind, n above 4 (these first)." */
    private static void sheetRefusals() {
        HopCourts x = Check.made("1", "41;42;43;44");
        for (int kind = 0; kind <= 2; kind++) {
            Check.due("9: n -1", x.sheet(kind, -1, 5, 5), -2);
            Check.due("9: the least n", x.sheet(kind, Integer.MIN_VALUE, 5, 5), -2);
            Check.due("9: n 5", x.sheet(kind, 5, 5, 5), -1);
            Check.due("9: the most n", x.sheet(kind, Integer.MAX_VALUE, 5, 5), -1);
        }
        for (int kind : new int[] {-1, 4, Integer.MIN_VALUE, Integer.MAX_VALUE}) {
            for (int n : new int[] {-1, 0, 4, 5}) {
                Check.due("9: another kind first", x.sheet(kind, n, 5, 5), -1);
            }
        }
        Check.due("9: n above 4 first, of a missing one, too", x.sheet(3, 5, 5, 5), -1);
        for (int player = 0; player < 4; player++) {
            Check.due("9: nothing changes", x.player(player, 1), player + 1);
        }
        for (int n : new int[] {-1, 0, 4, Integer.MIN_VALUE}) {
            x.sheet(2, 4, 5, 1);
            Check.due("9: missing", x.sheet(3, n, 5, 5), -3);
            for (int player = 0; player < 4; player++) {
                Check.due("9: all 0", x.player(player, 1), 0);
            }
        }
        HopCourts two = Check.made("1", "41;42");
        Check.due("9: AIMS of PLAYERS, not more", two.sheet(2, 4, 1, 1), 3);
        Check.due("9: no PLAYERS", new HopCourts().sheet(0, 4, 1, 1), 0);
        Check.due("9: a new one has the AIM he is told by", Check.players(two, "17"), 1);
        Check.due("9: not that of the sheet", two.player(2, 1), 7);
    }

    /** 9: "Nothing is kept of it that could be undone (an undo() behind it brings AIMS back, too, ..)". */
    private static void sheetsAndUndo() {
        HopCourts x = Check.made("1", "41;42");
        x.houses();
        Check.due("9: told numbers stay", x, x.sheet(2, 2, 3, 1), 7, 0, 0);
        Check.due("9: nothing is kept", x.undo(), -1);
        x.passes();
        x.sheet(2, 2, 8, 1);
        x.sheet(3, 0, 0, 0);
        Check.due("9: one can be undone", x.count(9), 1);
        Check.due("9: undo", x.undo(), 0);
        Check.due("9: AIMS as ahead of what is undone", 10 * x.player(0, 1) + x.player(1, 1), 34);
        x.sheet(2, 2, 5, 1);
        x.passes();
        x.undo();
        Check.due("9: AIMS of a sheet ahead of it", 10 * x.player(0, 1) + x.player(1, 1), 56);
        x.keep(0);
        x.sheet(3, 0, 0, 0);
        x.again(0);
        Check.due("46: AIMS are kept", 10 * x.player(0, 1) + x.player(1, 1), 56);
    }
}
