import java.util.List;

/** Promises 10 to 17, and what Terms 1 say of A THROW: each sentence that names an edge, by itself. */
public final class ThrowsEdgesTest {
    public static void main(String[] args) {
        faultsByOff();
        faultsByNoGoal();
        faultsByHopping();
        faultsAtMost();
        rightsAtMost();
        rightsBehindOthersHouses();
        placeIsBehindTheGoal();
        ownHousesAreGoals();
        goalsDoNotGoRound();
        turnsGoRound();
        stonesTold();
        playsByNumber();
        playsTell();
        passesTell();
        takesAnswers();
        takesAll();
        leavesAnswers();
        growsAnswers();
        fourPlayersApart();
        gameSigns();
        gameEndsTooEarly();
        gameHasMoreThanSixty();
        gameStops();
        gameEmpty();
        undoOfEach();
        undoKeepsTwelve();
        undoGoesRound();
        undoForgotten();
        undoLeavesOthers();
        Check.end("ThrowsEdgesTest");
    }

    private static HopCourts made(String court, String players, String rule) {
        HopCourts x = Check.made(court, players);
        Check.due("rule " + rule, Check.rule(x, rule), 0);
        return x;
    }

    private static void isFault(String what, HopCourts x, int player) {
        int faults = x.player(player, 5);
        int place = x.player(player, 2);
        int rights = x.player(player, 6);
        int throwsMade = x.count(4);
        Check.due(what, x.throwsOne(), 0);
        Check.due(what + ": FAULTS are 1 more", x.player(player, 5), faults + 1);
        Check.due(what + ": PLACE stays", x.player(player, 2), place);
        Check.due(what + ": RIGHTS stay", x.player(player, 6), rights);
        Check.due(what + ": THROWS are 1 more", x.count(4), throwsMade + 1);
    }

    /** "If OFF is not 0". */
    private static void faultsByOff() {
        for (int off = -3; off <= 3; off++) {
            HopCourts x = made("222", "40;40", off < 0 ? "0-" + -off : "" + off);
            if (off == 0) {
                Check.due("10: OFF 0", x, x.throwsOne(), 1, 100, 0);
                Check.due("10: no FAULT", x.player(0, 5), 0);
            } else {
                isFault("10: OFF " + off, x, 0);
                Check.due("10: TURN is of the next", x.count(3), 1);
                Check.due("10: where the stone went", x.row(0), 100 + off);
            }
        }
    }

    /** "or GOAL is no SQUARE". */
    private static void faultsByNoGoal() {
        HopCourts x = made("12", "40;40", "0");
        x.plays(9);
        x.takes(0, 0);
        x.takes(0, 1);
        x.takes(0, 2);
        x.passes();
        Check.due("10: no GOAL", x.player(1, 3), 3);
        Check.due("10: he CAN HOP", x.ways(1, 3) > 0, true);
        isFault("10: GOAL is no SQUARE", x, 1);
        Check.due("10: told", x.row(0), 103);
        Check.due("10: TURN", x.row(1), 0);
    }

    /** "or he can't hop, his stone being in GOAL". */
    private static void faultsByHopping() {
        HopCourts x = made("11", "10;20", "0");
        Check.due("10: he could without a stone", x.ways(0, 2), 1);
        isFault("10: his stone bars the way", x, 0);
        Check.due("10: the next one reaches over it", x.throwsOne(), 1);
        HopCourts y = made("21", "10", "0");
        Check.due("10: round the own stone", y.throwsOne(), 1);
        Check.due("10: round the own stone", y.throwsOne(), 1);
        isFault("10: in a ROW of one", y, 0);
    }

    /** Terms 1: "FAULTS are 1 more (99 at most), TURN is of the next player". */
    private static void faultsAtMost() {
        HopCourts x = made("1", "40;40", "1");
        for (int i = 0; i < 3; i++) {
            x.plays(60);
        }
        x.plays(16);
        Check.due("98", x.player(0, 5) + x.player(1, 5), 196);
        x.throwsOne();
        Check.due("99", x.player(0, 5), 99);
        x.throwsOne();
        Check.due("10: a fault all the same", x, x.throwsOne(), 0, 101, 1);
        Check.due("99 at most", x.player(0, 5), 99);
        Check.due("10: THROWS go on", x.count(4), 199);
        Check.due("48: FAULTS of all", x.count(5), 198);
    }

    /** Terms 1: "RIGHTS are 1 more (9 at most), PLACE is 0; TURN stays". */
    private static void rightsAtMost() {
        HopCourts x = made("2", "10;10", "0");
        for (int round = 1; round <= 11; round++) {
            Check.due("10: first SQUARE", x, x.throwsOne(), 1, 100, 0);
            Check.due("PLACE", x.player(0, 2), 1);
            Check.due("RIGHTS", x.player(0, 6), Math.min(9, round - 1));
            Check.due("10: last SQUARE", x, x.throwsOne(), 1, 101, 0);
            Check.due("PLACE is 0", x.player(0, 2), 0);
            Check.due("RIGHTS are 1 more (9 at most)", x.player(0, 6), Math.min(9, round));
            Check.due("TURN stays", x.count(3), 0);
        }
        Check.due("48: RIGHTS of all", x.count(6), 9);
        Check.due("13: by one of his RIGHTS", x.takes(0, 0), 1);
        Check.due("which are 1 less", x.player(0, 6), 8);
    }

    /** "if his GOAL is no SQUARE then": what lies behind is another one's. */
    private static void rightsBehindOthersHouses() {
        HopCourts x = made("121", "40;40", "0");
        x.plays(8);
        x.takes(0, 2);
        x.takes(0, 3);
        x.passes();
        Check.due("10: first", x.throwsOne(), 1);
        Check.due("no RIGHTS", x.player(1, 6), 0);
        Check.due("10: SQUARE 1 is his last one", x, x.throwsOne(), 1, 101, 1);
        Check.due("RIGHTS", x.player(1, 6), 1);
        Check.due("PLACE", x.player(1, 2), 0);
    }

    /** "Else PLACE is GOAL and 1": not PLACE and 1. */
    private static void placeIsBehindTheGoal() {
        HopCourts x = made("121", "40;40", "0");
        x.plays(8);
        x.takes(0, 0);
        x.takes(0, 1);
        x.passes();
        Check.due("PLACE", x.player(1, 2), 0);
        Check.due("GOAL", x.player(1, 3), 2);
        Check.due("10: into GOAL", x, x.throwsOne(), 1, 102, 1);
        Check.due("PLACE is GOAL and 1", x.player(1, 2), 3);
        Check.due("GOAL", x.player(1, 3), 3);
        Check.due("10: the last", x, x.throwsOne(), 1, 103, 1);
        Check.due("PLACE is 0, though GOAL is not", x.player(1, 2), 0);
        Check.due("GOAL", x.player(1, 3), 2);
    }

    /** "the first SQUARE from his PLACE on that is no HOUSE of another one". */
    private static void ownHousesAreGoals() {
        HopCourts x = made("11", "40", "0");
        x.plays(4);
        x.takes(0, 0);
        x.takes(0, 1);
        Check.due("GOAL is an own HOUSE", x.player(0, 3), 0);
        Check.due("10: into it", x, x.throwsOne(), 1, 100, 0);
        Check.due("GOAL", x.player(0, 3), 1);
    }

    /** "how many SQUARES there are, if there is none": those ahead of PLACE do not count. */
    private static void goalsDoNotGoRound() {
        HopCourts x = made("11", "40;40", "0");
        x.throwsOne();
        x.passes();
        x.plays(2);
        x.takes(1, 1);
        Check.due("PLACE", x.player(0, 2), 1);
        Check.due("GOAL does not go round", x.player(0, 3), 2);
        x.passes();
        isFault("10: GOAL is no SQUARE", x, 0);
        x.leaves(1, 1);
        Check.due("GOAL, left again", x.player(0, 3), 1);
    }

    /** "TURN is of the next player (behind the last one: 0)". */
    private static void turnsGoRound() {
        for (int many = 1; many <= 4; many++) {
            HopCourts x = made("1", "40;40;40;40".substring(0, 3 * many - 1), "1");
            for (int i = 1; i <= 9; i++) {
                Check.due("10: fault", x, x.throwsOne(), 0, 101, i % many);
                Check.due("TURN", x.count(3), i % many);
            }
            for (int i = 10; i <= 18; i++) {
                Check.due("12: whose", x.passes(), i % many);
                Check.due("TURN", x.count(3), i % many);
            }
        }
    }

    /** 10: "100 and the SQUARE to which the stone went (GOAL and OFF, whether it is one or not)". */
    private static void stonesTold() {
        HopCourts x = made("22222222", "40", "-3");
        Check.due("10: ahead of the first", x, x.throwsOne(), 0, 97, 0);
        Check.rule(x, "0");
        x.plays(15);
        Check.due("GOAL 15", x.player(0, 3), 15);
        Check.rule(x, "3");
        Check.due("10: behind the last", x, x.throwsOne(), 0, 118, 0);
        Check.rule(x, "0");
        Check.due("10: the last, and all told of then", x, x.throwsOne(), 1, 115, 0);
        HopCourts y = made("22222222", "40;40", "0");
        y.plays(60);
        y.plays(60);
        y.plays(60);
        for (int square = 0; square < 9; square++) {
            y.takes(0, square);
        }
        y.plays(60);
        y.plays(60);
        for (int square = 9; square < 16; square++) {
            y.takes(0, square);
        }
        Check.due("all are his", y.player(0, 4), 65535);
        y.passes();
        Check.rule(y, "3");
        Check.due("10: no GOAL and OFF 3", y, y.throwsOne(), 0, 119, 0);
    }

    /** 11: "n THROWS are made (1 .. 60) .. Refused: another n, no PLAYERS". */
    private static void playsByNumber() {
        for (int n : new int[] {1, 2, 59, 60}) {
            HopCourts x = made("1", "40", "0");
            Check.due("11: " + n, x.plays(n), n);
            Check.due("11: THROWS", x.count(4), n);
            Check.due("11: as one", x.count(9), 1);
        }
        HopCourts x = made("1", "40", "0");
        for (int n : new int[] {0, -1, 61, Integer.MIN_VALUE, Integer.MAX_VALUE}) {
            Check.due("11: " + n, x.plays(n), -1);
        }
        Check.due("11: nothing was made", x.count(4) + x.count(9), 0);
        Check.due("11: no PLAYERS", new HopCourts().plays(1), -1);
        Check.due("10: no PLAYERS", new HopCourts().throwsOne(), -1);
        Check.due("12: no PLAYERS", new HopCourts().passes(), -1);
    }

    /** 11: "how many were no faults; the told numbers: PLACES of PLAYERS then". */
    private static void playsTell() {
        HopCourts x = made("22", "10;10;10;10", "n=2");
        Check.due("11: none is a fault", x, x.plays(2), 2, 2, 0, 0, 0);
        Check.due("11: one is, then four", x, x.plays(5), 4, 2, 0, 0, 0);
        Check.due("11: player 1 has thrown into all", x.player(1, 6), 1);
        Check.due("11: two, a fault", x, x.plays(3), 2, 2, 2, 0, 0);
        Check.rule(x, "1");
        Check.due("11: all are faults", x, x.plays(5), 0, 2, 2, 0, 0);
        HopCourts alone = made("22", "10", "0");
        Check.due("11: all are right", alone, alone.plays(60), 60, 0);
        Check.due("11: and 3", alone, alone.plays(3), 3, 3);
    }

    /** 12: "TURN is of the next player: whose." */
    private static void passesTell() {
        HopCourts x = made("1", "40;40", "0");
        x.plays(1);
        Check.due("12: told numbers stay", x, x.passes(), 1, 0, 0);
        Check.due("12: no THROW", x.count(4), 1);
        Check.due("12: no FAULT", x.count(5), 0);
        Check.due("12: RIGHTS stay", x.player(0, 6), 1);
    }

    /** 13: "-2: he has no RIGHTS; -3: it is a HOUSE; NONE: none such" (NONE first). */
    private static void takesAnswers() {
        HopCourts x = made("11", "40;40", "0");
        Check.due("13: no RIGHTS", x.takes(0, 0), -2);
        Check.due("13: no such SQUARE, no RIGHTS", x.takes(0, 2), -1);
        Check.due("13: no such SQUARE, no RIGHTS", x.takes(0, -1), -1);
        Check.due("13: no such player", x.takes(2, 0), -1);
        Check.due("13: neither", x.takes(-1, -1), -1);
        x.plays(4);
        x.passes();
        x.plays(2);
        Check.due("13: one", x.takes(1, 1), 1);
        Check.due("13: RIGHTS are 1 less", x.player(1, 6), 0);
        Check.due("13: a HOUSE of another one", x.takes(0, 1), -3);
        Check.due("13: RIGHTS stay", x.player(0, 6), 2);
        Check.due("13: two", x.takes(0, 0), 1);
        Check.due("13: an own HOUSE", x.takes(0, 0), -3);
        Check.due("13: no such player ahead of a HOUSE", x.takes(2, 0), -1);
        x.leaves(1, 1);
        Check.due("13: the last one", x.takes(0, 1), 2);
        Check.due("13: no RIGHTS ahead of a HOUSE", x.takes(1, 0), -2);
        Check.due("13: nor of an own one", x.takes(0, 0), -2);
        Check.due("13: not the one whose TURN it is", x.count(3), 1);
    }

    private static void takesAll() {
        HopCourts x = made("22222222", "40", "0");
        x.plays(60);
        x.plays(60);
        x.plays(24);
        Check.due("9 RIGHTS", x.player(0, 6), 9);
        for (int i = 0; i < 9; i++) {
            Check.due("13: how many HOUSES", x.takes(0, 15 - i), i + 1);
        }
        Check.due("13: no RIGHTS", x.takes(0, 0), -2);
        Check.due("HOUSES", x.player(0, 4), 65535 - 127);
        x.plays(60);
        x.plays(60);
        for (int i = 0; i < 7; i++) {
            Check.due("13: how many HOUSES", x.takes(0, i), i + 10);
        }
        Check.due("HOUSES: all", x.player(0, 4), 65535);
        Check.due("14: the last SQUARE", x.leaves(0, 15), 15);
        Check.due("14: the first SQUARE", x.leaves(0, 0), 14);
    }

    /** 14: "A HOUSE of a player is nobody's then .. -2: it is not his; NONE: none such". */
    private static void leavesAnswers() {
        HopCourts x = made("11", "40;40", "0");
        x.plays(4);
        x.takes(0, 0);
        x.takes(0, 1);
        Check.due("14: another one's", x.leaves(1, 0), -2);
        Check.due("14: no such player", x.leaves(2, 0), -1);
        Check.due("14: no such player", x.leaves(-1, 0), -1);
        Check.due("14: no such SQUARE", x.leaves(0, 2), -1);
        Check.due("14: no such SQUARE, not his", x.leaves(1, -1), -1);
        Check.due("14: 1 is left", x.leaves(0, 0), 1);
        Check.due("14: nobody's", x.square(0, 1), 4);
        Check.due("14: nobody's is not his", x.leaves(0, 0), -2);
        Check.due("14: none is left", x.leaves(0, 1), 0);
        Check.due("14: no RIGHTS for it", x.player(0, 6), 0);
        Check.due("GOAL of the other one is back", x.player(1, 3), 0);
    }

    /** 15: "REACH of a player becomes v (1 .. 4): 10 and what it was. -2: it is so; NONE: others". */
    private static void growsAnswers() {
        HopCourts x = made("1", "10;40", "0");
        for (int from = 1; from <= 4; from++) {
            for (int to = 1; to <= 4; to++) {
                Check.due("15: from " + from + " to " + to, x.grows(0, to), to == from ? -2 : 10 + from);
                Check.due("15: REACH", x.player(0, 0), to);
                x.grows(0, from);
            }
            if (from < 4) {
                x.grows(0, from + 1);
            }
        }
        Check.due("15: the other one stays", x.player(1, 0), 4);
        Check.due("15: 0", x.grows(1, 0), -1);
        Check.due("15: 5", x.grows(1, 5), -1);
        Check.due("15: -1", x.grows(1, -1), -1);
        Check.due("15: none such, though it is so", x.grows(2, 4), -1);
        Check.due("15: none such", x.grows(-1, 1), -1);
    }

    /** What one of four PLAYERS has is no other one's. */
    private static void fourPlayersApart() {
        HopCourts x = made("2222", "11;22;33;44", "n=6");
        for (int i = 0; i < 6; i++) {
            x.plays(59);
        }
        for (int player = 0; player < 4; player++) {
            Check.due("13: one each", x.takes(player, new int[] {0, 2, 4, 7}[player]), 1);
        }
        Check.rule(x, "0");
        for (int player = 0; player < 4; player++) {
            for (int i = 0; i < 8 && x.player(x.count(3), 2) == 0; i++) {
                x.throwsOne();
            }
            x.passes();
        }
        int[][] first = new int[4][7];
        for (int player = 0; player < 4; player++) {
            for (int what = 0; what < 7; what++) {
                first[player][what] = x.player(player, what);
            }
        }
        Check.due("HOUSES", first[0][4] + first[1][4] + first[2][4] + first[3][4], 1 + 4 + 16 + 128);
        int[] owners = {0, 4, 1, 4, 2, 4, 4, 3};
        for (int square = 0; square < 8; square++) {
            Check.due("7: whose HOUSE", x.square(square, 1), owners[square]);
        }
        x.sheet(2, 4, 9, -2);
        for (int player = 0; player < 4; player++) {
            Check.due("9: AIM", x.player(player, 1), 9 - 2 * player);
            first[player][1] = 9 - 2 * player;
            for (int what : new int[] {0, 2, 4, 5, 6}) {
                Check.due("9: nothing but AIMS", x.player(player, what), first[player][what]);
            }
        }
        for (int player = 0; player < 4; player++) {
            x.grows(player, 1 + (player + 1) % 4);
            x.leaves(player, new int[] {0, 2, 4, 7}[player]);
            for (int other = 0; other < 4; other++) {
                if (other != player) {
                    for (int what : new int[] {0, 1, 2, 4, 5, 6}) {
                        Check.due(what + " of " + other + " stays", x.player(other, what), first[other][what]);
                    }
                }
            }
            x.undo();
            x.undo();
        }
        Check.due("PLACES of the first and the last are not 0", first[0][2] * first[3][2] != 0, true);
        Check.due("FAULTS of each are not 0", first[0][5] * first[1][5] * first[2][5] * first[3][5] != 0, true);
        Check.due("48: FAULTS of all", x.count(5), first[0][5] + first[1][5] + first[2][5] + first[3][5]);
        Check.due("48: RIGHTS of all", x.count(6), first[0][6] + first[1][6] + first[2][6] + first[3][6]);
    }

    /** 16: "ACTS one behind another, without signs between", "-1 - p: the sign at p can't stand there". */
    private static void gameSigns() {
        for (int sign = 0; sign < 256; sign++) {
            char c = (char) sign;
            boolean whole = c == '*' || c == '/';
            boolean begins = c == 't' || c == 'l' || c == 'g';
            boolean digit = c >= '0' && c <= '9';
            HopCourts x = made("1", "40", "1");
            Check.due("16: first " + sign, Check.game(x, "" + c), whole ? 1 : begins ? -2 : -1);
            Check.due("16: behind * " + sign, Check.game(x, "*" + c), whole ? 2 : begins ? -3 : -2);
            Check.due("16: t" + sign, Check.game(x, "t" + c + "00"), digit ? 0 : -2);
            Check.due("16: t0" + sign, Check.game(x, "t0" + c + "0"), digit ? 0 : -3);
            Check.due("16: t00" + sign, Check.game(x, "t00" + c), digit ? 0 : -4);
            Check.due("16: t000" + sign, Check.game(x, "t000" + c), whole ? 0 : begins ? -6 : -5);
            Check.due("16: l" + sign, Check.game(x, "l" + c + "00"), digit ? 0 : -2);
            Check.due("16: l0" + sign, Check.game(x, "l0" + c + "0"), digit ? 0 : -3);
            Check.due("16: l00" + sign, Check.game(x, "l00" + c), digit ? 0 : -4);
            Check.due("16: g" + sign, Check.game(x, "g" + c + "4"), digit ? 0 : -2);
            boolean grows = c >= '1' && c <= '3';
            Check.due("16: g0" + sign, Check.game(x, "g0" + c), grows ? 1 : digit ? 0 : -3);
        }
    }

    /** 16: "its end, if it ends too early". */
    private static void gameEndsTooEarly() {
        String whole = "*t000/l000g04*";
        int[] ends = {0, 1, 5, 6, 10, 13, 14};
        for (int length = 0; length <= whole.length(); length++) {
            HopCourts x = made("1", "40", "0");
            boolean fine = false;
            for (int end : ends) {
                fine |= end == length;
            }
            int answer = Check.game(x, whole.substring(0, length));
            Check.due("16: " + length + " signs", fine ? answer >= 0 : answer == -1 - length, true);
            Check.due("16: nothing is done", fine || x.count(4) + x.count(9) == 0, true);
            Check.due("16: THE TEXT is empty", x.count(11), 0);
        }
    }

    /** 16: "60, if it has more and the first 60 could go on or end". */
    private static void gameHasMoreThanSixty() {
        String sixty = "*".repeat(60);
        HopCourts x = made("1", "40", "0");
        x.fits();
        for (String behind : new String[] {"*", "/", "x", "t", "0", "**********", "\u0000"}) {
            Check.due("16: 60 and " + behind, x, Check.game(x, sixty + behind), -61, 1);
        }
        for (int cut = 1; cut <= 3; cut++) {
            Check.due("16: the first 60 could go on", x, Check.game(x, sixty.substring(cut) + "t000"), -61, 1);
            Check.due("16: so, by a wrong sign at 60", x, Check.game(x, sixty.substring(cut) + "t000".substring(0, cut)
                + "x"), -61, 1);
            Check.due("16: ended there", x, Check.game(x, sixty.substring(cut) + "t000".substring(0, cut)), -61, 1);
        }
        Check.due("16: the first 60 can't go on", x, Check.game(x, sixty.substring(1) + "x*"), -60, 1);
        Check.due("16: the first can't", x, Check.game(x, "x" + sixty), -1, 1);
        Check.due("16: nothing is done", x.count(4) + x.count(9), 0);
        Check.due("16: 60", x, Check.game(x, sixty), 60, 0, 0);
        Check.due("16: 60 of others", x, Check.game(x, "t000".repeat(15)), 1, 1, 0);
    }

    /** 16: "till one can't be (it answers below 0): how many were done; the told numbers: 1 if one could not be, else 0". */
    private static void gameStops() {
        String[] stops = {"t000", "t200", "t902", "t099", "l000", "l100", "l002", "l300", "g04", "g00", "g05", "g09", "g24",
            "g94"};
        for (String stop : stops) {
            HopCourts x = made("11", "40;40", "0");
            Check.due("16: nothing is done by " + stop, x, Check.game(x, stop + "*"), 0, 1, 0);
            Check.due("16: nothing to undo", x.count(9), 0);
            Check.due("16: no THROW", x.count(4), 0);
            Check.due("16: one ACT, then " + stop, x, Check.game(x, "/" + stop + "**"), 1, 1, 1);
            Check.due("16: as one", x.count(9), 1);
            Check.due("16: what comes behind is not done", x.count(4), 0);
            Check.due("17: undone", x.undo(), 0);
            Check.due("17: TURN", x.count(3), 0);
        }
        HopCourts x = made("11", "40;40", "0");
        Check.due("16: each ACT", x, Check.game(x, "****t001t000l001g03/*"), 10, 0, 1);
        Check.due("HOUSES", x.player(0, 4), 1);
        Check.due("RIGHTS", x.player(0, 6), 0);
        Check.due("REACH", x.player(0, 0), 3);
        Check.due("PLACE: SQUARE 0 is another one's", x.player(1, 2), 0);
        Check.due("RIGHTS: he has thrown into all that are left", x.player(1, 6), 1);
        Check.rule(x, "1");
        Check.due("16: a fault is done, too", x, Check.game(x, "**"), 2, 0, 1);
        Check.due("16: -3 stops, too", x, Check.game(x, "/t100*"), 1, 1, 0);
        Check.due("16: as takes()", x.takes(1, 0), -3);
    }

    private static void gameEmpty() {
        HopCourts x = made("1", "40;40", "0");
        x.passes();
        Check.due("16: an empty one: nothing", x, Check.game(x, ""), 0, 0, 1);
        Check.due("16: nothing to undo of it", x.count(9), 1);
        HopCourts none = new HopCourts();
        Check.due("16: no PLAYERS", none, Check.game(none, ""), 0, 0, 0);
        for (String act : new String[] {"*", "/", "t000", "l000", "g01"}) {
            Check.due("16: no PLAYERS, " + act, none, Check.game(none, act + "*"), 0, 1, 0);
        }
        Check.due("16: no PLAYERS, wrong", Check.game(none, "*x"), -2);
    }

    private static void undone(String what, HopCourts x, Twin.Call act) {
        // AIMS that differ from those ahead of the act before: each act must be kept by itself.
        x.sheet(2, x.count(2), (x.player(0, 1) + 1) % 4, 2);
        List<Long> before = Twin.seen(x);
        int left = x.count(9);
        Check.due(what + " is done", act.on(x) >= 0, true);
        Check.due(what + " can be undone", x.count(9), left + 1);
        Check.due(what + " changes something", Twin.seen(x).equals(before), false);
        Check.due(what + " is undone", x.undo(), left);
        x.order();
        Check.due(what + ": all is as ahead of it", Twin.seen(x).equals(before), true);
    }

    /** 17: "all of PLAYERS, TURN, THROWS are as ahead of it", of each call by itself. */
    private static void undoOfEach() {
        HopCourts x = made("22", "21;32;43", "n=5");
        x.plays(30);
        x.plays(31);
        x.takes(1, 2);
        x.takes(0, 1);
        x.order();
        undone("throwsOne()", x, y -> told(y, y.throwsOne()));
        undone("a right throwsOne()", x, y -> told(y, rightThrow(y)));
        undone("a faulty throwsOne()", x, y -> told(y, faultyThrow(y)));
        undone("plays()", x, y -> told(y, y.plays(60)));
        undone("passes()", x, y -> y.passes());
        undone("takes()", x, y -> y.takes(2, 3));
        undone("leaves()", x, y -> y.leaves(1, 2));
        undone("grows()", x, y -> y.grows(2, 1));
        undone("game()", x, y -> told(y, Check.game(y, "*/t203l101g21**")));
        undone("game() that was stopped", x, y -> told(y, Check.game(y, "/t203t203*")));
        undone("takes() behind plays()", x, y -> y.takes(2, 0));
        undone("leaves() behind a sheet", x, y -> y.leaves(0, 1));
        undone("grows() once more", x, y -> y.grows(0, 4));
    }

    private static long told(HopCourts x, long answer) {
        x.order();
        return answer;
    }

    private static long rightThrow(HopCourts x) {
        Check.rule(x, "0");
        long answer = x.throwsOne();
        Check.rule(x, "n=5");
        return answer;
    }

    private static long faultyThrow(HopCourts x) {
        Check.rule(x, "2");
        long answer = x.throwsOne();
        Check.rule(x, "n=5");
        return answer;
    }

    /** 17: "of 12 that are kept, the latest ones". */
    private static void undoKeepsTwelve() {
        for (int acts = 0; acts <= 15; acts++) {
            HopCourts x = made("1", "40", "0");
            for (int i = 0; i < acts; i++) {
                x.throwsOne();
            }
            int kept = Math.min(12, acts);
            Check.due("48: what can be undone", x.count(9), kept);
            for (int left = kept - 1; left >= 0; left--) {
                Check.due("17: how many are left", x.undo(), left);
                Check.due("17: THROWS", x.count(4), acts - kept + left);
            }
            Check.due("17: none", x.undo(), -1);
            Check.due("17: THROWS stay", x.count(4), acts - kept);
        }
    }

    /** Acts behind undo() are undone in their turn, however often. */
    private static void undoGoesRound() {
        HopCourts x = made("1", "40", "0");
        int made = 0;
        for (int round = 0; round < 9; round++) {
            for (int i = 0; i < 7; i++) {
                x.throwsOne();
            }
            made += 7;
            for (int i = 0; i < 4; i++) {
                x.undo();
            }
            made -= 4;
            Check.due("THROWS", x.count(4), made);
        }
        int kept = x.count(9);
        Check.due("17: 12 less 4", kept, 8);
        for (int left = kept - 1; left >= 0; left--) {
            Check.due("17: left", x.undo(), left);
            made--;
            Check.due("17: THROWS", x.count(4), made);
        }
        Check.due("17: none", x.undo(), -1);
    }

    /** 17: "(court(), players() and again() forget them, if they are not refused; an empty players() does not.)" */
    private static void undoForgotten() {
        Check.due("17: court() forgets", behind(x -> Check.court(x, "1")), 0);
        Check.due("17: court(), refused", behind(x -> Check.court(x, "3")), 2);
        Check.due("17: players() forgets", behind(x -> Check.players(x, "11")), 0);
        Check.due("17: players(), refused", behind(x -> Check.players(x, "10;")), 2);
        Check.due("17: players(), empty", behind(x -> Check.players(x, "")), 2);
        Check.due("17: again() forgets", behind(x -> x.again(0) ? 1 : 0), 0);
        Check.due("17: again(), refused", behind(x -> x.again(1) ? 1 : 0), 2);
        Check.due("17: again(2), refused", behind(x -> x.again(2) ? 1 : 0), 2);
        Check.due("17: keep() does not", behind(x -> x.keep(0) ? 1 : 0), 2);
        Check.due("17: rule() does not", behind(x -> Check.rule(x, "1")), 2);
        Check.due("17: law() does not", behind(x -> Check.law(x, "1")), 2);
        Check.due("17: sheet() does not", behind(x -> x.sheet(2, 1, 1, 1)), 2);
        Check.due("17: years() does not", behind(x -> x.years(1, 60)), 2);
        Check.due("17: forget() does not", behind(x -> x.forget()), 2);
        Check.due("17: denies() does not", behind(x -> x.denies()), 2);
        Check.due("17: a refused act does not", behind(x -> x.takes(0, 0)), 2);
        Check.due("17: a game of which none was done does not", behind(x -> Check.game(x, "t000")), 2);
    }

    private static int behind(Twin.Call call) {
        HopCourts x = made("1", "40;40", "0");
        x.keep(0);
        x.passes();
        x.passes();
        call.on(x);
        int left = x.count(9);
        Check.due("17: so undo() answers", x.undo(), left - 1);
        return left;
    }

    /** What is not of PLAYERS, TURN, THROWS stays: THE RULE, what was heard, seen, kept, told, and THE TEXT. */
    private static void undoLeavesOthers() {
        HopCourts x = made("1", "40;40", "0");
        x.passes();
        Check.rule(x, "2");
        x.heard(0, 4);
        x.saw(1, 1);
        x.keep(1);
        x.fits();
        Check.text(x, "12");
        Check.due("17: told numbers stay", x, x.undo(), 0, 2);
        Check.due("THE RULE", x.player(0, 7), 12);
        Check.due("heard", x.count(7), 1);
        Check.due("seen", x.count(8), 1);
        Check.due("THE TEXT", x.count(11), 2);
        Check.due("kept", x.again(1), true);
        Check.due("TURN as it was kept", x.count(3), 1);
    }
}
