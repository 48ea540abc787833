import java.util.ArrayList;
import java.util.List;
import java.util.NoSuchElementException;

/** All of an object that a caller can get to see, so that two of them can be compared. */
final class Twin {
    /** A text that no call which reads THE TEXT takes: what is left of it shows where it is refused. */
    static final String TEXT = "1+1+1+z";

    private Twin() {
    }

    /** Three PLAYERS, two HOUSES, two kept ones, three steps to undo, something heard, seen, told, and a TEXT. */
    static HopCourts rich() {
        HopCourts x = new HopCourts();
        Check.court(x, "1212");
        Check.players(x, "24;35;10");
        Check.rule(x, "0");
        x.plays(6);
        x.passes();
        x.plays(12);
        x.takes(0, 5);
        x.takes(1, 2);
        x.keep(0);
        Check.rule(x, "n=5");
        x.plays(9);
        x.keep(1);
        x.again(1);
        x.passes();
        x.grows(0, 3);
        x.throwsOne();
        x.heard(1, 3);
        x.saw(2, 0);
        x.saw(4, 1);
        x.houses();
        Check.text(x, TEXT);
        return x;
    }

    /** What can be seen without a change: counts, SQUARES, PLAYERS, the told numbers. */
    static List<Long> seen(HopCourts x) {
        List<Long> all = new ArrayList<>();
        for (int what = 0; what <= 11; what++) {
            all.add((long) x.count(what));
        }
        for (int square = 0; square < x.count(1); square++) {
            for (int what = 0; what <= 2; what++) {
                all.add((long) x.square(square, what));
            }
        }
        for (int player = 0; player < x.count(2); player++) {
            for (int what = 0; what <= 7; what++) {
                all.add((long) x.player(player, what));
            }
        }
        for (int i = 0; i < x.count(10); i++) {
            all.add(x.row(i));
        }
        return all;
    }

    /** What is seen, and then THE TEXT, what was heard and seen, THE RULE, what can be undone and what is kept. */
    static List<Long> all(HopCourts x) {
        List<Long> all = seen(x);
        all.add((long) x.law());
        all.add((long) x.fits());
        all.add((long) x.laws());
        all.add(tell(x, Check.law(x, "1")));
        int left = 0;
        for (int i = 0; i < 14 && left >= 0; i++) {
            left = x.undo();
            all.add((long) left);
            all.addAll(standing(x));
        }
        for (int i = 0; i < 2; i++) {
            all.add(x.again(i) ? 1L : 0L);
            all.addAll(standing(x));
        }
        return all;
    }

    private static long tell(HopCourts x, long answer) {
        long told = answer;
        for (long number : Check.told(x)) {
            told = 1000 * told + number;
        }
        return told;
    }

    private static List<Long> standing(HopCourts x) {
        List<Long> all = new ArrayList<>();
        all.add(100L * x.count(4) + x.count(3));
        for (int player = 0; player < x.count(2); player++) {
            for (int what = 0; what <= 6; what++) {
                all.add((long) x.player(player, what));
            }
        }
        return all;
    }

    /** A call's answer; NoSuchElementException as Check.NO_SUCH, a boolean as 1 or 0. */
    interface Call {
        long on(HopCourts x);
    }

    static long answer(Call call, HopCourts x) {
        try {
            return call.on(x);
        } catch (NoSuchElementException e) {
            return Check.NO_SUCH;
        }
    }
}
