/** Promises 27 to 31: each sentence that names an edge, by itself. */
public final class ThrowsToComeEdgesTest {
    public static void main(String[] args) {
        laterIsAsPlayed();
        laterAtMost();
        laterRefused();
        whenIsFirst();
        whenAtTheEnds();
        runByNumber();
        runOfTheFirst();
        roundOfTurns();
        roundOfPlaces();
        roundOfRights();
        roundFromAPlace();
        roundAtTheEnd();
        orderOfAll();
        orderByEach();
        Check.end("ThrowsToComeEdgesTest");
    }

    private static HopCourts made(String court, String players, String rule) {
        HopCourts x = Check.made(court, players);
        Check.due("rule " + rule, Check.rule(x, rule), 0);
        x.fits();
        return x;
    }

    private static HopCourts drawn() {
        HopCourts x = made("2122", "13;24;47", "n>a-f");
        x.plays(11);
        return x;
    }

    /** 27: "PLACE of a player behind n THROWS (0 .. 99): it; the told numbers: his RIGHTS, his FAULTS then." */
    private static void laterIsAsPlayed() {
        for (int n = 0; n <= 99; n += n < 9 ? 1 : 9) {
            for (int player = 0; player < 3; player++) {
                HopCourts played = drawn();
                for (int left = n; left > 0; left -= 60) {
                    played.plays(Math.min(60, left));
                }
                HopCourts x = drawn();
                Check.due("27: behind " + n, x, x.later(player, n), played.player(player, 2), played.player(player, 6),
                    played.player(player, 5));
                Check.due("27: nothing is thrown", x.count(4), 11);
            }
        }
    }

    private static void laterAtMost() {
        HopCourts x = made("1", "40;40", "i");
        x.throwsOne();
        x.passes();
        x.throwsOne();
        Check.due("one FAULT", x.player(1, 5), 1);
        // Player 0 throws without a fault from now on.
        Check.due("27: RIGHTS 9 at most", x, x.later(0, 99), 0, 9, 0);
        Check.due("27: 8 more", x, x.later(0, 7), 0, 8, 0);
        Check.due("27: the other one waits", x, x.later(1, 99), 0, 0, 1);
        Check.rule(x, "1");
        x.plays(60);
        x.plays(60);
        Check.due("27: FAULTS 99 at most", x, x.later(1, 99), 0, 0, 99);
        Check.due("27: as now behind none", x, x.later(1, 0), 0, 0, 61);
    }

    /** 27: "NONE: others." */
    private static void laterRefused() {
        HopCourts x = made("1", "40;40", "0");
        for (int n : new int[] {-1, 100, Integer.MIN_VALUE, Integer.MAX_VALUE}) {
            Check.due("27: n " + n, x, x.later(0, n), -1, 2);
        }
        for (int player : new int[] {-1, 2, Integer.MIN_VALUE, Integer.MAX_VALUE}) {
            Check.due("27: player " + player, x, x.later(player, 0), -1, 2);
            Check.due("28: player " + player, x, x.when(player), -1, 2);
        }
        Check.due("27: 99", x.later(0, 99), 0);
        Check.due("27: no PLAYERS", new HopCourts().later(0, 0), -1);
        Check.due("28: no PLAYERS", new HopCourts().when(0), -1);
    }

    /** 28: "RIGHTS of a player are more than now first: how many; the told numbers: FAULTS of all together then." */
    private static void whenIsFirst() {
        HopCourts x = made("12", "40;40", "n=2");
        // THROWS 0 and 1 of player 0, a fault, then player 1: 3, 4, 5 are his first round.
        Check.due("28: player 1", x, x.when(1), 6, 1);
        // 6, 7 and 8 are his second one, 9 is a fault, 10 ends the round of player 0.
        Check.due("28: player 0", x, x.when(0), 11, 2);
        x.plays(6);
        Check.due("28: more than now: the next round", x, x.when(1), 3, 1);
        Check.due("28: nothing is thrown", x.count(4), 6);
        for (int rights = 0; rights <= 9; rights++) {
            HopCourts y = made("1", "40", "0");
            if (rights > 0) {
                y.plays(rights);
            }
            y.fits();
            Check.due("28: by RIGHTS " + rights, y, y.when(0), rights < 9 ? 1 : -2, rights < 9 ? 0 : 1);
        }
    }

    /** 28: "(1 .. 99) .. -2: behind none of these". */
    private static void whenAtTheEnds() {
        for (int faults = 97; faults <= 99; faults++) {
            HopCourts x = made("1", "40", "f<" + faults);
            if (faults < 99) {
                Check.due("28: behind " + (faults + 1), x, x.when(0), faults + 1, faults);
            } else {
                Check.due("28: behind 100", x, x.when(0), -2, 1);
                x.throwsOne();
                Check.due("28: behind 99", x, x.when(0), 99, 99);
            }
        }
        HopCourts never = made("1", "10;40", "0");
        Check.due("28: he can't hop", never, never.when(0), -2, 2);
        Check.due("28: the other one, behind a fault", never, never.when(1), 2, 1);
    }

    /** 29: "of the next n (1 .. 99) .. Refused: another n, no PLAYERS". */
    private static void runByNumber() {
        HopCourts x = made("1", "40", "0");
        for (int n : new int[] {1, 2, 50, 98, 99}) {
            Check.due("29: all of " + n, x, x.run(n), n, 1);
        }
        for (int n : new int[] {0, -1, 100, Integer.MIN_VALUE, Integer.MAX_VALUE}) {
            Check.due("29: another n " + n, x, x.run(n), -1, 1);
        }
        Check.rule(x, "1");
        for (int n : new int[] {1, 2, 99}) {
            Check.due("29: none of " + n, x, x.run(n), 0, 0);
        }
        Check.due("29: nothing is thrown", x.count(4) + x.count(5), 0);
        HopCourts none = new HopCourts();
        none.rests(18);
        Check.due("29: no PLAYERS", none, none.run(1), -1, 9, 9);
        Check.due("29: neither", none, none.run(0), -1, 9, 9);
    }

    /** 29: "by which number of THROW the first of them is (1 ..; of as long ones the first; 0 without)". */
    private static void runOfTheFirst() {
        // Faults by n 2 and 5: right ones are THROWS 1 2, 4 5, 7 8 9, 11 12, 14 15 16.
        HopCourts x = made("1", "40;40", "(n=2)+(n=5)");
        int[] longest = {1, 2, 2, 2, 2, 2, 2, 2, 3, 3, 3, 3, 3, 3, 3, 3};
        int[] first = {1, 1, 1, 1, 1, 1, 1, 1, 7, 7, 7, 7, 7, 7, 7, 7};
        for (int n = 1; n <= longest.length; n++) {
            Check.due("29: of " + n, x, x.run(n), longest[n - 1], first[n - 1]);
        }
        Check.due("29: of 99", x, x.run(99), 3, 7);
        x.plays(2);
        Check.due("29: a fault first", x, x.run(1), 0, 0);
        Check.due("29: a fault first, then two", x, x.run(3), 2, 2);
        Check.due("29: cut by n", x, x.run(2), 1, 2);
        HopCourts y = made("1", "40", "f<98");
        Check.due("29: the last one alone", y, y.run(99), 1, 99);
        Check.due("29: none of 98", y, y.run(98), 0, 0);
    }

    /** 30: "PLACES, RIGHTS, FAULTS, TURN and the rest of THROWS by 7 are as they were behind fewer". */
    private static void roundOfTurns() {
        int[] due = {7, 14, 21, 28};
        for (int many = 1; many <= 4; many++) {
            HopCourts x = made("1", "40;40;40;40".substring(0, 3 * many - 1), "1");
            for (int i = 0; i < 7; i++) {
                x.plays(60);
            }
            Check.due("FAULTS are 99", x.count(5), 99 * many);
            x.fits();
            Check.due("30: TURN of " + many + " and 7", x, x.round(), due[many - 1], 0);
            Check.due("30: nothing is thrown", x.count(4), 420);
        }
        HopCourts none = new HopCourts();
        none.rests(18);
        Check.due("30: no PLAYERS", none, none.round(), -2, 9, 9);
    }

    private static void roundOfPlaces() {
        String[] courts = {"1", "2", "21", "22", "212", "222", "2212", "2222", "22221", "222121", "2221222", "2222222",
            "22222122", "22222222"};
        for (String court : courts) {
            HopCourts x = made(court, "40", "0");
            int squares = x.count(1);
            for (int rounds = 0; rounds < 9; rounds++) {
                x.plays(squares);
            }
            Check.due("RIGHTS are 9", x.player(0, 6), 9);
            x.fits();
            int both = squares % 7 == 0 ? squares : 7 * squares;
            if (both <= 99) {
                Check.due("30: PLACES of " + court, x, x.round(), both, 0);
            } else {
                Check.due("30: PLACES of " + court, x, x.round(), -2, 1);
            }
        }
    }

    private static void roundOfRights() {
        HopCourts x = made("1", "40", "0");
        Check.due("30: RIGHTS grow to 9 first", x, x.round(), 16, 9);
        HopCourts y = made("12", "40", "0");
        Check.due("30: PLACES and RIGHTS", y, y.round(), 48, 27);
        HopCourts z = made("1", "40;40", "i");
        // Player 0 throws on: the other one's TURN does not come.
        Check.due("30: as alone", z, z.round(), 16, 9);
        z.passes();
        Check.due("30: a fault first", z, z.round(), 17, 10);
    }

    /** PLACE one less, RIGHTS some more and THROWS by 7 as they were: not the same, though all are held as one number. */
    private static void roundFromAPlace() {
        HopCourts x = made("22", "40", "0");
        x.plays(1);
        // Behind 3 + 8 * 4 THROWS: PLACE 0, RIGHTS 9 first; from there on round by 4 and 7.
        Check.due("30: PLACE 1, RIGHTS 0 is not PLACE 0, RIGHTS 9", x, x.round(), 63, 35);
        HopCourts y = made("2222", "40", "0");
        y.plays(1);
        y.fits();
        // Behind 7 + 7 * 8 THROWS: PLACE 0, RIGHTS 8; RIGHTS are 9 behind 71, and 56 more are too many.
        Check.due("30: PLACE 1, RIGHTS 0 is not PLACE 0, RIGHTS 8", y, y.round(), -2, 1);
    }

    /** 30: "Behind how many THROWS (1 .. 99)", "-2: behind none of these". */
    private static void roundAtTheEnd() {
        int[] made = {5, 6, 7, 8, 60};
        for (int faults : made) {
            HopCourts x = made("1", "40", "1");
            x.plays(faults);
            x.fits();
            int behind = 99 - faults + 7;
            if (behind <= 99) {
                Check.due("30: behind " + behind, x, x.round(), behind, behind - 7);
            } else {
                Check.due("30: behind " + behind, x, x.round(), -2, 1);
            }
        }
    }

    /** 31: "how many; the told numbers: they". */
    private static void orderOfAll() {
        HopCourts none = new HopCourts();
        none.rests(18);
        Check.due("31: no PLAYERS", none, none.order(), 0);
        HopCourts one = made("1", "10", "0");
        Check.due("31: one", one, one.order(), 1, 0);
        HopCourts four = made("1", "40;30;20;10", "0");
        Check.due("31: then the lesser number", four, four.order(), 4, 0, 1, 2, 3);
    }

    /** 31: "more HOUSES and RIGHTS together, of as many the farther PLACE, of as far ones fewer FAULTS, .." */
    private static void orderByEach() {
        HopCourts x = made("22", "40;40;40;40", "0");
        x.plays(4);
        x.takes(0, 3);
        x.passes();
        x.plays(3);
        Check.due("PLACE: SQUARE 3 is another one's", x.player(1, 2), 0);
        Check.due("31: a HOUSE is as much as a RIGHT", x, x.order(), 4, 0, 1, 2, 3);
        x.plays(1);
        Check.due("31: of as many the farther PLACE", x, x.order(), 4, 1, 0, 2, 3);
        x.passes();
        x.passes();
        x.plays(2);
        Check.due("31: more together ahead of a farther PLACE", x, x.order(), 4, 1, 0, 3, 2);
        x.passes();
        x.plays(1);
        Check.due("31: as far: fewer FAULTS, none has any, then the number", x, x.order(), 4, 0, 1, 3, 2);
        Check.rule(x, "i=0");
        x.throwsOne();
        Check.due("31: of as far ones fewer FAULTS", x, x.order(), 4, 1, 0, 3, 2);
        Check.rule(x, "i=1");
        x.throwsOne();
        Check.due("31: as many FAULTS", x, x.order(), 4, 0, 1, 3, 2);
        x.leaves(0, 3);
        Check.due("31: a HOUSE less", x, x.order(), 4, 1, 3, 0, 2);
        Check.rule(x, "1");
        x.throwsOne();
        x.throwsOne();
        Check.due("31: PLACE ahead of FAULTS", x, x.order(), 4, 1, 3, 0, 2);
    }
}
