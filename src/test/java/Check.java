import java.util.Arrays;
import java.util.NoSuchElementException;
import java.util.function.LongSupplier;

/** What the tests share: answers that are due, and texts given sign by sign. */
final class Check {
    /** What a call counts as that throws NoSuchElementException. */
    static final long NO_SUCH = Long.MIN_VALUE;

    private static int wrong = 0;
    private static int asked = 0;

    private Check() {
    }

    static void due(String what, long got, long want) {
        asked++;
        if (got != want) {
            wrong++;
            System.out.println(what + ": answered " + got + ", due is " + want);
        }
    }

    static void due(String what, boolean got, boolean want) {
        due(what, got ? 1 : 0, want ? 1 : 0);
    }

    /** The answer, and all told numbers behind it. */
    static void due(String what, HopCourts x, long got, long want, long... told) {
        due(what, got, want);
        asked++;
        long[] are = told(x);
        if (!Arrays.equals(are, told)) {
            wrong++;
            System.out.println(what + ": told " + Arrays.toString(are) + ", due is " + Arrays.toString(told));
        }
    }

    static void noSuch(String what, LongSupplier call) {
        due(what + " throws", answer(call), NO_SUCH);
    }

    static long answer(LongSupplier call) {
        try {
            return call.getAsLong();
        } catch (NoSuchElementException e) {
            return NO_SUCH;
        }
    }

    static long[] told(HopCourts x) {
        long[] numbers = new long[x.count(10)];
        for (int i = 0; i < numbers.length; i++) {
            numbers[i] = x.row(i);
        }
        return numbers;
    }

    /** Puts a text in place of THE TEXT; the last four signs are filled and cut. */
    static void text(HopCourts x, String signs) {
        x.end(0);
        for (int i = 0; i < signs.length(); i += 4) {
            int v = 0;
            for (int k = i; k < i + 4; k++) {
                v = v << 8 | (k < signs.length() ? signs.charAt(k) & 255 : 0);
            }
            x.sign(v);
        }
        x.end(signs.length());
    }

    static int court(HopCourts x, String signs) {
        text(x, signs);
        return x.court();
    }

    static int players(HopCourts x, String signs) {
        text(x, signs);
        return x.players();
    }

    static int rule(HopCourts x, String signs) {
        text(x, signs);
        return x.rule();
    }

    static int game(HopCourts x, String signs) {
        text(x, signs);
        return x.game();
    }

    static int law(HopCourts x, String signs) {
        text(x, signs);
        return x.law();
    }

    /** A new object with a court and PLAYERS. */
    static HopCourts made(String court, String players) {
        HopCourts x = new HopCourts();
        due("court " + court, court(x, court) > 0, true);
        due("players " + players, players(x, players) >= 0, true);
        return x;
    }

    /** Two PLAYERS of such REACH, AIM 0, PLACE 0, who own SQUARES (bits); by THE RULE 0; TURN is 0. */
    static HopCourts owned(String court, int reach, int houses, int reachOfOther, int housesOfOther) {
        HopCourts x = made(court, "40;40");
        due("rule", rule(x, "0"), 0);
        int squares = x.count(1);
        for (int square = 0; square < squares; square++) {
            if (square % 8 == 0) {
                for (int player = 0; player < 2; player++) {
                    // Rounds go on without a fault, as long as REACH 4 comes over what the other one owns.
                    int wanted = Integer.bitCount((player == 0 ? houses : housesOfOther) >> square & 255);
                    for (int round = 0; round < 9 && x.player(player, 6) < wanted; round++) {
                        x.plays(freeOf(x, player));
                    }
                    due("PLACE", x.player(player, 2), 0);
                    due("no FAULTS", x.count(5), 0);
                    x.passes();
                }
            }
            if ((houses >> square & 1) != 0) {
                due("takes", x.takes(0, square) > 0, true);
            }
            if ((housesOfOther >> square & 1) != 0) {
                due("takes", x.takes(1, square) > 0, true);
            }
        }
        x.grows(0, reach);
        x.grows(1, reachOfOther);
        due("HOUSES", x.player(0, 4), houses);
        due("HOUSES", x.player(1, 4), housesOfOther);
        x.fits();
        return x;
    }

    private static int freeOf(HopCourts x, int player) {
        return x.count(1) - Integer.bitCount(x.player(1 - player, 4));
    }

    static void end(String name) {
        System.out.println(name + ": " + asked + " answers asked, " + wrong + " wrong");
        if (wrong > 0 || asked == 0) {
            System.exit(1);
        }
    }
}
