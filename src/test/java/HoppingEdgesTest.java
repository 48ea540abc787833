/** Promises 18 to 26, and what Terms 1 say of FREE ROWS and HOPS: each sentence that names an edge, by itself. */
public final class HoppingEdgesTest {
    public static void main(String[] args) {
        freeRowsOfTwo();
        freeRowsOfOne();
        hopsFromStart();
        hopsFromOwnRows();
        hopsFromOtherRows();
        stonesNowhere();
        hopTellsTheLeast();
        waysOfAll();
        courtsOneBehindTheOther();
        trapsCount();
        needsAnswers();
        gapAnswers();
        gatesAnswers();
        shutsAnswers();
        shutsTheLeast();
        bestAnswers();
        housesAnswers();
        noneComesFirst();
        Check.end("HoppingEdgesTest");
    }

    /** "A ROW is FREE .., if it has a SQUARE that is neither that of the stone nor a HOUSE of another one." */
    private static void freeRowsOfTwo() {
        for (int own = 0; own < 4; own++) {
            for (int others = 0; others < 4; others++) {
                if ((own & others) != 0) {
                    continue;
                }
                HopCourts x = Check.owned("2", 1, own, 1, others);
                for (int stone = 0; stone <= 2; stone++) {
                    int barred = others | (stone < 2 ? 1 << stone : 0);
                    String what = "own " + own + ", others' " + others + ", stone " + stone;
                    if (barred == 3) {
                        Check.due("19: " + what, x, x.ways(0, stone), 0);
                    } else {
                        Check.due("19: " + what, x, x.ways(0, stone), 1, 1, 1);
                    }
                }
                Check.due("22: no stone", x.gap(0), others == 3 ? 1 : 0);
                Check.due("22: of the other one", x.gap(1), own == 3 ? 1 : 0);
            }
        }
    }

    private static void freeRowsOfOne() {
        HopCourts free = Check.owned("1", 1, 0, 1, 0);
        Check.due("18: nobody's", free, free.hop(0, 1), 2, 0);
        Check.due("18: the stone is there", free, free.hop(0, 0), -2, 0);
        HopCourts own = Check.owned("1", 1, 1, 1, 0);
        Check.due("18: his own", own, own.hop(0, 1), 2, 0);
        Check.due("18: his own, the stone is there", own, own.hop(0, 0), -2, 0);
        Check.due("18: another one's", own, own.hop(1, 1), -2, 0);
        Check.due("18: another one's, a stone is there, too", own, own.hop(1, 0), -2, 0);
    }

    /** "1 to REACH ROWS on", "START is one ahead of ROW 0", "BEYOND is one on from the last ROW". */
    private static void hopsFromStart() {
        for (int barred = 1; barred <= 4; barred++) {
            for (int reach = 1; reach <= 4; reach++) {
                HopCourts x = Check.owned("1111".substring(0, barred), reach, 0, 4, (1 << barred) - 1);
                if (barred + 1 <= reach) {
                    Check.due("18: " + barred + " by " + reach, x, x.hop(0, barred), 1);
                    Check.due("19: " + barred + " by " + reach, x, x.ways(0, barred), 1, 0, 0);
                } else {
                    Check.due("18: " + barred + " by " + reach, x, x.hop(0, barred), -2, 2);
                    Check.due("19: " + barred + " by " + reach, x, x.ways(0, barred), 0);
                }
            }
        }
    }

    /** "1 to REACH and 1 from a ROW that has a HOUSE of his own". */
    private static void hopsFromOwnRows() {
        for (int barred = 1; barred <= 5; barred++) {
            int others = (1 << barred + 1) - 2;
            for (int reach = 1; reach <= 4; reach++) {
                HopCourts x = Check.owned("111111".substring(0, barred + 1), reach, 1, 4, others);
                String what = "18: his own, then " + barred + ", by " + reach;
                if (barred + 2 <= reach) {
                    Check.due(what, x, x.hop(0, barred + 1), 1);
                } else if (barred <= reach) {
                    Check.due(what, x, x.hop(0, barred + 1), 2, 0);
                } else {
                    Check.due(what, x, x.hop(0, barred + 1), -2, 2);
                }
            }
        }
        // A ROW of 2 has a HOUSE of his own, though the stone lies in it, and he lands in the other SQUARE.
        HopCourts x = Check.owned("21", 1, 1, 4, 4);
        Check.due("18: the stone in the HOUSE", x, x.hop(0, 0), 2, 0);
        Check.due("18: the stone beside the HOUSE", x, x.hop(0, 1), 2, 0);
        HopCourts y = Check.owned("21", 1, 1, 4, 2);
        Check.due("18: one is his, one another one's", y, y.hop(0, 2), 2, 0);
        Check.due("18: the stone in his, the other one another one's", y, y.hop(0, 0), -2, 0);
    }

    private static void hopsFromOtherRows() {
        for (int barred = 1; barred <= 4; barred++) {
            int others = (1 << barred + 1) - 2;
            for (int reach = 1; reach <= 4; reach++) {
                HopCourts x = Check.owned("11111".substring(0, barred + 1), reach, 0, 4, others);
                String what = "18: nobody's, then " + barred + ", by " + reach;
                if (barred + 2 <= reach) {
                    Check.due(what, x, x.hop(0, barred + 1), 1);
                } else if (barred + 1 <= reach) {
                    Check.due(what, x, x.hop(0, barred + 1), 2, 0);
                } else {
                    Check.due(what, x, x.hop(0, barred + 1), -2, 2);
                }
            }
        }
    }

    /** Terms 2: "A stone that is asked for as s lies in SQUARE s, or nowhere, if s is how many SQUARES there are." */
    private static void stonesNowhere() {
        for (String court : new String[] {"1", "12", "22222222"}) {
            HopCourts x = Check.made(court, "10");
            int squares = x.count(1);
            Check.due("18: nowhere", x.hop(0, squares), court.length() + 1);
            Check.due("19: nowhere", x.ways(0, squares), 1);
            x.fits();
            for (int s : new int[] {-1, squares + 1, squares + 2, Integer.MIN_VALUE, Integer.MAX_VALUE}) {
                Check.due("18: another s", x, x.hop(0, s), -1, 1);
                Check.due("19: another s", x, x.ways(0, s), -1, 1);
            }
            boolean ends = court.endsWith("1");
            Check.due("18: in the last SQUARE", x.hop(0, squares - 1), ends ? -2 : court.length() + 1);
        }
        // A stone in another one's HOUSE bars no more than the HOUSE.
        HopCourts x = Check.owned("212", 2, 0, 1, 1);
        Check.due("18: in another one's HOUSE", x, x.hop(0, 0), 2, 1);
        Check.due("18: nowhere", x, x.hop(0, 5), 2, 1);
    }

    /** 18: "of as few the least row; not BEYOND". */
    private static void hopTellsTheLeast() {
        HopCourts x = Check.made("11111111", "10;20;30;40");
        Check.due("18: by 1", x, x.hop(0, 8), 9, 0, 1, 2, 3, 4, 5, 6, 7);
        Check.due("18: by 2", x, x.hop(1, 8), 5, 0, 2, 4, 6);
        Check.due("18: by 3", x, x.hop(2, 8), 3, 2, 5);
        Check.due("18: by 4", x, x.hop(3, 8), 3, 0, 4);
        Check.due("18: by 2, stone in 0", x, x.hop(1, 0), 5, 1, 2, 4, 6);
        Check.due("18: by 2, stone in 4", x, x.hop(1, 4), 5, 1, 3, 5, 6);
        Check.due("18: by 3, stone in 5", x, x.hop(2, 5), 4, 0, 3, 6);
        Check.due("18: by 4, stone in 4", x, x.hop(3, 4), 3, 1, 5);
        HopCourts one = Check.made("1", "20");
        one.fits();
        Check.due("18: at once: no ROW", one, one.hop(0, 1), 1);
        HopCourts two = Check.made("11", "20");
        Check.due("18: of as few the least", two, two.hop(0, 2), 2, 0);
        Check.due("18: the other one", two, two.hop(0, 0), 2, 1);
    }

    /** 19: "the most ROWS on which he can land so, the fewest (nothing without)". */
    private static void waysOfAll() {
        HopCourts all = Check.owned("11111111", 4, 255, 1, 0);
        // Parts of 9: 1 to 5 each, but 1 to 4 from START: 120 + 61 + 31 + 16.
        Check.due("19: all are his own", all, all.ways(0, 8), 228, 8, 1);
        Check.due("19: none is free for the other one", all, all.ways(1, 8), 0);
        HopCourts one = Check.made("1", "10");
        Check.due("19: one way", one, one.ways(0, 1), 1, 1, 1);
        Check.due("19: none", one, one.ways(0, 0), 0);
        HopCourts x = Check.made("212", "20");
        Check.due("19: a ROW of two counts once", x, x.ways(0, 5), 5, 3, 1);
        Check.due("19: so, too, with a stone in it", x, x.ways(0, 0), 5, 3, 1);
        Check.due("19: ROW 1 is not free", x, x.ways(0, 2), 1, 2, 2);
    }

    /** Nothing is left of what was asked in another court. */
    private static void courtsOneBehindTheOther() {
        HopCourts x = new HopCourts();
        String[] courts = {"22222222", "1", "11111111", "2", "12", "111111"};
        for (String court : courts) {
            Check.due("4: " + court, Check.court(x, court) > 0, true);
            Check.players(x, "10;40");
            int rows = court.length();
            Check.due("18: " + court, x.hop(0, x.count(1)), rows + 1);
            Check.due("19: " + court, x, x.ways(0, x.count(1)), 1, rows, rows);
            int fewest = rows / 4;
            Check.due("18: by 4, " + court, x.hop(1, x.count(1)), fewest + 1);
            Check.due("19: by 4, " + court, x.ways(1, x.count(1)) > 0, true);
            Check.due("19: the most", x.row(0), rows);
            Check.due("19: the fewest", x.row(1), fewest);
            int ones = court.startsWith("1") ? 1 : 0;
            Check.due("20: " + court, x.traps(0) & 1, ones);
            Check.due("22: " + court, x.gap(0), 0);
            Check.due("42: " + court, x.dare(0, 1), rows % 2 == 0 ? 1 : 0);
        }
    }

    /** 20: "SQUARES that are no HOUSES of others .. from which as GOALS a player can't hop through". */
    private static void trapsCount() {
        HopCourts x = Check.owned("11", 1, 1, 1, 0);
        Check.due("20: an own HOUSE is one", x, x.traps(0), 1, 1);
        Check.due("20: another one's is none", x, x.traps(1), 2, 1);
        HopCourts y = Check.owned("22222222", 4, 3, 1, 0);
        Check.due("20: all that are left", y, y.traps(1), 65535 - 3, 14);
        Check.due("20: none", y, y.traps(0), 0, 0);
        HopCourts z = Check.made("11111111", "10;20");
        Check.due("20: all", z, z.traps(0), 255, 8);
        Check.due("20: none by 2", z, z.traps(1), 0, 0);
        // ROW 0: one SQUARE is another one's, so the other one is a trap.
        HopCourts w = Check.owned("22", 1, 0, 1, 1);
        Check.due("20: beside another one's", w, w.traps(0), 2, 1);
        Check.due("20: his own beside nobody's", w, w.traps(1), 0, 0);
    }

    /** 21: "The least REACH (1 .. 9 ..)", "by one less (0, if it is 1)"; by 9 BEYOND is always in reach: -2 never comes. */
    private static void needsAnswers() {
        for (int rows = 1; rows <= 8; rows++) {
            // All but the last ROW are another one's: the stone in the last bars it, too.
            HopCourts x = Check.owned("11111111".substring(0, rows), 1, 0, 4, (1 << rows - 1) - 1);
            Check.due("21: " + rows + " ROWS", x, x.needs(0), rows + 1, 1);
            for (int reach = 2; reach <= 4; reach++) {
                x.grows(0, reach);
                Check.due("21: in place of his own REACH", x, x.needs(0), rows + 1, 1);
            }
        }
        HopCourts two = Check.made("2222", "30");
        Check.due("21: 1", two, two.needs(0), 1, 0);
        HopCourts ones = Check.made("1111", "10");
        Check.due("21: 2, by one less all four", ones, ones.needs(0), 2, 4);
        HopCourts own = Check.owned("21", 1, 1, 1, 0);
        Check.due("21: 1 more from his own ROW", own, own.needs(0), 1, 0);
        Check.due("21: not for the other one", own, own.needs(1), 2, 2);
        HopCourts all = Check.owned("11", 1, 3, 1, 0);
        Check.due("21: no SQUARE is left: no traps", all, all.needs(1), 1, 0);
    }

    /** 22: "of as long ones the first; nothing without". */
    private static void gapAnswers() {
        HopCourts none = Check.made("11", "10");
        Check.due("22: none", none, none.gap(0), 0);
        HopCourts x = Check.owned("11111111", 1, 0, 4, 1 + 2 + 8 + 16 + 128);
        Check.due("22: two of two", x, x.gap(0), 2, 0);
        Check.due("22: his own are free", x, x.gap(1), 0);
        HopCourts last = Check.owned("11111111", 1, 0, 4, 1 + 4 + 8 + 64 + 128);
        Check.due("22: the first of as long ones", last, last.gap(0), 2, 2);
        HopCourts end = Check.owned("1111", 1, 0, 4, 1 + 4 + 8);
        Check.due("22: the last ROWS", end, end.gap(0), 2, 2);
        HopCourts all = Check.owned("11111111", 4, 0, 4, 255);
        Check.due("22: all", all, all.gap(0), 8, 0);
        HopCourts half = Check.owned("222", 4, 0, 4, 1 + 4 + 8 + 16);
        Check.due("22: half a ROW is free", half, half.gap(0), 1, 1);
    }

    /** 23: "SQUARES (nobody's; bits) .. (he can't hop, no stone; all of them, if he can't as it is)". */
    private static void gatesAnswers() {
        HopCourts x = Check.made("11", "10;20");
        Check.due("23: each of both", x, x.gates(0), 3, 2);
        Check.due("23: none", x, x.gates(1), 0, 0);
        HopCourts own = Check.owned("11", 1, 1, 1, 0);
        Check.due("23: he comes from his own over the other one", own, own.gates(0), 0, 0);
        Check.due("23: he can't as it is", own, own.gates(1), 2, 1);
        HopCourts half = Check.owned("22", 1, 0, 1, 1);
        Check.due("23: what is left of a ROW", half, half.gates(0), 2, 1);
        Check.due("23: no HOUSE of his own", half, half.gates(1), 0, 0);
        HopCourts all = Check.owned("22", 1, 15, 1, 0);
        Check.due("23: none is nobody's, he can", all, all.gates(0), 0, 0);
        Check.due("23: none is nobody's, he can't", all, all.gates(1), 0, 0);
    }

    /** 24: "how many (0: he is)", "-2: by none". */
    private static void shutsAnswers() {
        HopCourts x = Check.owned("11", 1, 1, 1, 0);
        Check.due("24: he is shut out", x, x.shuts(1), 0, 0);
        HopCourts y = Check.made("1", "10;20;30");
        Check.due("24: by 1", y, y.shuts(0), 1, 1);
        y.order();
        Check.due("24: by none, BEYOND is in reach", y, y.shuts(1), -2, 0, 1, 2);
        Check.due("24: by none", y, y.shuts(2), -2, 0, 1, 2);
        HopCourts own = Check.owned("12", 1, 1 + 2, 1, 0);
        Check.due("24: all ROWS have his own", own, own.shuts(0), -2, 2);
        HopCourts half = Check.owned("22", 1, 0, 1, 1 + 4);
        Check.due("24: what is left of a ROW", half, half.shuts(0), 1, 2);
        HopCourts all = Check.made("22222222", "10;20;30;40");
        Check.due("24: by 1 one ROW", all, all.shuts(0), 2, 3);
        Check.due("24: by 2 two ROWS", all, all.shuts(1), 4, 15);
        Check.due("24: by 3 three ROWS", all, all.shuts(2), 6, 63);
        Check.due("24: by 4 four ROWS", all, all.shuts(3), 8, 255);
        HopCourts owned = Check.owned("2222", 1, 1, 1, 0);
        // From ROW 0, in which he owns, he hops two on: two ROWS one behind the other, not ROW 0.
        Check.due("24: past his own ROW", owned, owned.shuts(0), 2, 48);
    }

    /** 24: "they (bits: of as few the least)". */
    private static void shutsTheLeast() {
        HopCourts a = Check.made("2111", "10;20");
        Check.due("24: the least of three", a, a.shuts(0), 1, 4);
        Check.due("24: two of three", a, a.shuts(1), 2, 4 + 8);
        HopCourts b = Check.made("2211", "20");
        Check.due("24: the last two", b, b.shuts(0), 2, 16 + 32);
        HopCourts c = Check.made("112211", "20");
        Check.due("24: the first two of as few", c, c.shuts(0), 2, 3);
        HopCourts d = Check.owned("1122", 2, 0, 4, 4 + 16);
        Check.due("24: halves count as one", d, d.shuts(0), 2, 3);
        HopCourts e = Check.owned("2122", 2, 0, 4, 8 + 16);
        Check.due("24: one beside what is barred", e, e.shuts(0), 1, 4);
        HopCourts f = Check.owned("2221", 2, 0, 4, 4 + 16);
        Check.due("24: SQUARES 3 and 5 or 5 and 6", f, f.shuts(0), 2, 8 + 32);
    }

    /** 25: "0 without others", "of equal ones the first", "-2: there is no such SQUARE". */
    private static void bestAnswers() {
        HopCourts alone = Check.made("121", "10");
        Check.due("25: without others", alone, alone.best(0), 0, 0, 0);
        HopCourts x = Check.owned("111", 4, 1, 1, 0);
        // Player 1 has ROW 0 barred: 1 and 2 are traps of his; by one of them one is left.
        Check.due("25: SQUARE 1 is the first that is nobody's", x, x.best(0), 1, 1, 2);
        HopCourts y = Check.made("222", "40;10");
        Check.due("25: a SQUARE whose neighbour is a trap then", y, y.best(0), 0, 1, 0);
        HopCourts z = Check.made("2122", "40;10;20");
        // By SQUARE 2 player 1 has all 6 others as traps, player 2 hops over ROW 1: by stones in 3 .. 6, too.
        Check.due("25: the most", z, z.best(0), 2, 6, 1);
        HopCourts all = Check.owned("2", 4, 3, 1, 0);
        Check.due("25: no such SQUARE", all, all.best(0), -2, 2);
        Check.due("25: no such SQUARE for the other one", all, all.best(1), -2, 2);
        HopCourts last = Check.owned("2", 4, 1, 1, 0);
        Check.due("25: the last one", last, last.best(0), 1, 0, 1);
        Check.due("25: the last one for the other one", last, last.best(1), 1, 0, 0);
    }

    /** 26: "SQUARES that are HOUSES: how many; the told numbers: HOUSES of each player (how many)". */
    private static void housesAnswers() {
        HopCourts none = new HopCourts();
        none.rests(18);
        Check.due("26: no PLAYERS", none, none.houses(), 0);
        HopCourts x = Check.made("1", "10;10;10;10");
        Check.due("26: none", x, x.houses(), 0, 0, 0, 0, 0);
        HopCourts all = Check.owned("22222222", 4, 65535 - 3, 4, 3);
        Check.due("26: all", all, all.houses(), 16, 14, 2);
    }

    /** Terms 2: "NONE comes ahead of other answers below 0". */
    private static void noneComesFirst() {
        HopCourts x = Check.owned("1", 4, 1, 1, 0);
        Check.due("18: he can't", x, x.hop(1, 1), -2, 2);
        Check.due("18: another s, though he can't", x, x.hop(1, 2), -1, 2);
        Check.due("18: another s, though he can't", x, x.hop(1, -1), -1, 2);
        Check.due("18: none such", x, x.hop(2, 1), -1, 2);
        Check.due("24: none such", x, x.shuts(2), -1, 2);
        Check.due("25: none such, no such SQUARE", x, x.best(2), -1, 2);
    }
}
