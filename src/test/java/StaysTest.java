import java.util.List;

/** Term 2: what a refused call, an answer below 0 and a question leave as it is: all, but for THE TEXT that was read. */
public final class StaysTest {
    public static void main(String[] args) {
        refusedNumbers();
        refusedTexts();
        refusedWithoutPlayers();
        refusedWhenFull();
        refusedWithoutAny();
        thereIsNone();
        questions();
        actsLeaveTheText();
        Check.end("StaysTest");
    }

    /** A call on a rich object answers so, and the object is like one on which it was not called. */
    private static void stays(String name, long due, Twin.Call call) {
        stays(name, Twin.rich(), Twin.rich(), due, call);
    }

    private static void stays(String name, HopCourts x, HopCourts y, long due, Twin.Call call) {
        Check.due(name, Twin.answer(call, x), due);
        same(name, x, y);
    }

    private static void same(String name, HopCourts x, HopCourts y) {
        List<Long> is = Twin.all(x);
        List<Long> asBefore = Twin.all(y);
        Check.due(name + " changes nothing: " + is + " " + asBefore, is.equals(asBefore), true);
    }

    private static void refusedNumbers() {
        int[] low = {-1, Integer.MIN_VALUE};
        int[] players = {-1, 3, 4, Integer.MIN_VALUE, Integer.MAX_VALUE};
        for (int p : players) {
            stays("player(" + p + ", 0)", Check.NO_SUCH, x -> x.player(p, 0));
            stays("takes(" + p + ", 0)", -1, x -> x.takes(p, 0));
            stays("leaves(" + p + ", 5)", -1, x -> x.leaves(p, 5));
            stays("grows(" + p + ", 1)", -1, x -> x.grows(p, 1));
            stays("hop(" + p + ", 6)", -1, x -> x.hop(p, 6));
            stays("ways(" + p + ", 6)", -1, x -> x.ways(p, 6));
            stays("traps(" + p + ")", -1, x -> x.traps(p));
            stays("needs(" + p + ")", -1, x -> x.needs(p));
            stays("gap(" + p + ")", -1, x -> x.gap(p));
            stays("gates(" + p + ")", -1, x -> x.gates(p));
            stays("shuts(" + p + ")", -1, x -> x.shuts(p));
            stays("best(" + p + ")", -1, x -> x.best(p));
            stays("later(" + p + ", 1)", -1, x -> x.later(p, 1));
            stays("when(" + p + ")", -1, x -> x.when(p));
            stays("luck(" + p + ", 1, 1)", -1, x -> x.luck(p, 1, 1));
            stays("dare(" + p + ", 1)", -1, x -> x.dare(p, 1));
        }
        int[] squares = {-1, 6, 16, 32, Integer.MIN_VALUE, Integer.MAX_VALUE};
        for (int s : squares) {
            stays("square(" + s + ", 0)", Check.NO_SUCH, x -> x.square(s, 0));
            stays("takes(1, " + s + ")", -1, x -> x.takes(1, s));
            stays("leaves(0, " + s + ")", -1, x -> x.leaves(0, s));
        }
        int[] stones = {-1, 7, 16, 32, Integer.MIN_VALUE, Integer.MAX_VALUE};
        for (int s : stones) {
            stays("hop(0, " + s + ")", -1, x -> x.hop(0, s));
            stays("ways(0, " + s + ")", -1, x -> x.ways(0, s));
        }
        refused("end", low, new int[] {8, Integer.MAX_VALUE}, 0, v -> x -> x.end(v) ? 1 : 0);
        refused("square(0, what)", low, new int[] {3, Integer.MAX_VALUE}, Check.NO_SUCH, v -> x -> x.square(0, v));
        refused("player(0, what)", low, new int[] {8, Integer.MAX_VALUE}, Check.NO_SUCH, v -> x -> x.player(0, v));
        refused("sheet kind", low, new int[] {4, Integer.MAX_VALUE}, -1, v -> x -> x.sheet(v, 1, 1, 1));
        refused("sheet bytes", low, new int[0], -2, v -> x -> x.sheet(0, v, 1, 1));
        refused("sheet shorts", low, new int[0], -2, v -> x -> x.sheet(1, v, 1, 1));
        refused("sheet ints", low, new int[0], -2, v -> x -> x.sheet(2, v, 1, 1));
        for (int kind = 0; kind <= 3; kind++) {
            int k = kind;
            refused("sheet n", new int[0], new int[] {5, Integer.MAX_VALUE}, -1, v -> x -> x.sheet(k, v, 1, 1));
        }
        refused("plays", new int[] {0, -1, Integer.MIN_VALUE}, new int[] {61, Integer.MAX_VALUE}, -1, v -> x -> x.plays(v));
        refused("grows", new int[] {0, -1, Integer.MIN_VALUE}, new int[] {5, Integer.MAX_VALUE}, -1,
            v -> x -> x.grows(0, v));
        refused("later", low, new int[] {100, Integer.MAX_VALUE}, -1, v -> x -> x.later(0, v));
        refused("run", new int[] {0, -1, Integer.MIN_VALUE}, new int[] {100, Integer.MAX_VALUE}, -1, v -> x -> x.run(v));
        refusedClues();
        refusedLuck();
        refused("rests", low, new int[] {19, Integer.MAX_VALUE}, -1, v -> x -> x.rests(v));
        refused("years", new int[] {0, -1, Integer.MIN_VALUE}, new int[] {61, Integer.MAX_VALUE}, -1,
            v -> x -> x.years(1, v));
        refused("keep", low, new int[] {2, Integer.MAX_VALUE}, 0, v -> x -> x.keep(v) ? 1 : 0);
        refused("again", low, new int[] {2, Integer.MAX_VALUE}, 0, v -> x -> x.again(v) ? 1 : 0);
        refused("count", low, new int[] {12, Integer.MAX_VALUE}, -1, v -> x -> x.count(v));
        refused("row", low, new int[] {3, Integer.MAX_VALUE}, Check.NO_SUCH, v -> x -> x.row(v));
    }

    private static void refusedClues() {
        int[] low = {-1, Integer.MIN_VALUE};
        refused("heard what", low, new int[] {5, Integer.MAX_VALUE}, -1, v -> x -> x.heard(v, 1));
        int[] least = {1, 0, 0, 0, 0};
        int[] most = {4, 9, 9, 1, 9};
        for (int what = 0; what < 5; what++) {
            int w = what;
            refused("heard " + what, new int[] {least[what] - 1, Integer.MIN_VALUE},
                new int[] {most[what] + 1, Integer.MAX_VALUE}, -1, v -> x -> x.heard(w, v));
        }
        refused("saw n", low, new int[] {7, Integer.MAX_VALUE}, -1, v -> x -> x.saw(v, 0));
        refused("saw v", new int[] {-2, Integer.MIN_VALUE}, new int[] {2, Integer.MAX_VALUE}, -1, v -> x -> x.saw(0, v));
    }

    private static void refusedLuck() {
        int[] low = {-1, Integer.MIN_VALUE};
        refused("luck k", low, new int[] {9, Integer.MAX_VALUE}, -1, v -> x -> x.luck(0, v, 5));
        refused("luck p", low, new int[] {11, Integer.MAX_VALUE}, -1, v -> x -> x.luck(0, 1, v));
        refused("hits k", low, new int[] {9, Integer.MAX_VALUE}, -1, v -> x -> x.hits(v, 0, 5));
        refused("hits m", low, new int[] {4, Integer.MAX_VALUE}, -1, v -> x -> x.hits(3, v, 5));
        refused("hits p", low, new int[] {11, Integer.MAX_VALUE}, -1, v -> x -> x.hits(3, 1, v));
        refused("dare k", new int[] {0, -1, Integer.MIN_VALUE}, new int[] {9, Integer.MAX_VALUE}, -1,
            v -> x -> x.dare(0, v));
    }

    /** A call by one number. */
    private interface Numbered {
        Twin.Call by(int v);
    }

    private static void refused(String name, int[] tooSmall, int[] tooLarge, long due, Numbered call) {
        for (int v : tooSmall) {
            stays(name + " by " + v, due, call.by(v));
        }
        for (int v : tooLarge) {
            stays(name + " by " + v, due, call.by(v));
        }
    }

    /** Calls that refuse THE TEXT empty it; all else stays. */
    private static void refusedTexts() {
        textGoes("court", -2, x -> x.court());
        textGoes("players", -2, x -> x.players());
        textGoes("rule", -7, x -> x.rule());
        textGoes("game", -1, x -> x.game());
        textGoes("law", -10006, x -> x.law());
        for (String wrong : new String[] {"", "3", "111111111"}) {
            textGoes("court " + wrong, -1 - (wrong.length() > 8 ? 8 : 0), x -> Check.court(x, wrong));
        }
        textGoes("players 1", -2, x -> Check.players(x, "1"));
        textGoes("players 10;10, one has room", -4, x -> Check.players(x, "10;10"));
        textGoes("players of nothing", 0, x -> Check.players(x, ""));
        textGoes("game t00, ended too early", -4, x -> Check.game(x, "t00"));
        textGoes("game, all fine but the last", -5, x -> Check.game(x, "**//x"));
        textGoes("rule 1+", -3, x -> Check.rule(x, "1+"));
        textGoes("law 1+", -10002, x -> Check.law(x, "1+"));
    }

    private static void textGoes(String name, long due, Twin.Call call) {
        HopCourts y = Twin.rich();
        y.end(0);
        stays(name, Twin.rich(), y, due, call);
    }

    /** Without PLAYERS nobody throws, and every player is none such. */
    private static void refusedWithoutPlayers() {
        String[] names = {"throwsOne", "plays", "passes", "takes", "leaves", "grows", "hop", "ways", "traps", "needs", "gap",
            "gates", "shuts", "best", "later", "when", "run", "luck", "dare", "player", "undo", "again"};
        Twin.Call[] calls = {x -> x.throwsOne(), x -> x.plays(1), x -> x.passes(), x -> x.takes(0, 0), x -> x.leaves(0, 0),
            x -> x.grows(0, 1), x -> x.hop(0, 4), x -> x.ways(0, 4), x -> x.traps(0), x -> x.needs(0), x -> x.gap(0),
            x -> x.gates(0), x -> x.shuts(0), x -> x.best(0), x -> x.later(0, 0), x -> x.when(0), x -> x.run(1),
            x -> x.luck(0, 0, 0), x -> x.dare(0, 1), x -> x.player(0, 0), x -> x.undo(), x -> x.again(0) ? 1 : 0};
        for (int i = 0; i < calls.length; i++) {
            long due = names[i].equals("player") ? Check.NO_SUCH : names[i].equals("again") ? 0 : -1;
            stays(names[i] + " without players", bare(), bare(), due, calls[i]);
        }
        stays("round without players", bare(), bare(), -2, x -> x.round());
        stays("asks without players", bare(), bare(), -2, x -> x.asks());
        HopCourts y = bare();
        y.end(0);
        stays("law without players", bare(), y, -2, x -> Check.law(x, "1"));
    }

    private static HopCourts bare() {
        HopCourts x = new HopCourts();
        x.rests(18);
        Check.text(x, Twin.TEXT);
        return x;
    }

    private static void refusedWhenFull() {
        stays("sign when 77 are there", signs(77), signs(77), -1, x -> x.sign(0x31313131));
        stays("sign when 80 are there", signs(80), signs(80), -1, x -> x.sign(0x31313131));
        HopCourts x = Twin.rich();
        HopCourts y = Twin.rich();
        for (int i = 0; i < 11; i++) {
            x.heard(1, i % 10);
            y.heard(1, i % 10);
        }
        stays("heard when there are 12", x, y, -1, z -> z.heard(1, 9));
        x = Twin.rich();
        y = Twin.rich();
        for (int i = 0; i < 8; i++) {
            x.saw(2, 0);
            y.saw(2, 0);
        }
        stays("saw when there are 10", x, y, -1, z -> z.saw(2, 1));
        x = Twin.rich();
        y = Twin.rich();
        Check.due("the fourth player", Check.players(x, "11") + Check.players(y, "11"), 2);
        stays("players when there are 4", x, y, -1, z -> Check.players(z, "11"));
    }

    private static HopCourts signs(int many) {
        HopCourts x = new HopCourts();
        for (int i = 0; i < 20; i++) {
            x.sign(0x31323132);
        }
        x.end(many);
        return x;
    }

    private static void refusedWithoutAny() {
        HopCourts x = Twin.rich();
        HopCourts y = Twin.rich();
        for (int i = 0; i < 3; i++) {
            x.undo();
            y.undo();
        }
        stays("undo without any", x, y, -1, z -> z.undo());
        x = Check.made("12", "14;35");
        y = Check.made("12", "14;35");
        x.keep(1);
        y.keep(1);
        x.passes();
        y.passes();
        stays("again of what is not kept", x, y, 0, z -> z.again(0) ? 1 : 0);
    }

    /** Answers below 0 that tell that there is none leave the told numbers, too. */
    private static void thereIsNone() {
        stays("takes without RIGHTS", -2, x -> x.takes(2, 0));
        stays("takes a HOUSE of another one", -3, x -> x.takes(1, 5));
        stays("takes an own HOUSE", -3, x -> x.takes(1, 2));
        stays("leaves a HOUSE of another one", -2, x -> x.leaves(0, 2));
        stays("leaves nobody's", -2, x -> x.leaves(0, 0));
        stays("grows to what it is", -2, x -> x.grows(1, 3));
        stays("hop: he can't", -2, x -> x.hop(2, 0));
        stays("when: behind none", -2, x -> x.when(2));
        HopCourts x = Twin.rich();
        HopCourts y = Twin.rich();
        x.heard(4, 9);
        y.heard(4, 9);
        stays("asks: none fits", x, y, -2, z -> z.asks());
        x = Twin.rich();
        y = Twin.rich();
        x.saw(2, 1);
        y.saw(2, 1);
        stays("looks: none fits", x, y, -2, z -> z.looks());
        stays("shuts: by none", free(), free(), -2, z -> z.shuts(0));
        stays("best: no such SQUARE", owned(), owned(), -2, z -> z.best(0));
        stays("round: behind none", Check.made("1", "10"), Check.made("1", "10"), -2, z -> z.round());
    }

    /** By REACH 4 no HOUSES shut one out of two ROWS. */
    private static HopCourts free() {
        HopCourts x = Check.made("22", "40;10");
        x.fits();
        return x;
    }

    private static HopCourts owned() {
        HopCourts x = Check.made("1", "40;10");
        Check.rule(x, "0");
        x.throwsOne();
        x.takes(0, 0);
        x.fits();
        return x;
    }

    /** Questions change the told numbers alone. */
    private static void questions() {
        String[] names = {"square", "player", "hop", "ways", "traps", "needs", "gap", "gates", "shuts", "best", "houses",
            "later", "when", "run", "round", "order", "fits", "asks", "laws", "looks", "luck", "hits", "dare", "rests",
            "years", "count", "row", "keep as it is kept"};
        Twin.Call[] calls = {x -> x.square(0, 2), x -> x.player(0, 7), x -> x.hop(0, 6), x -> x.ways(1, 3), x -> x.traps(2),
            x -> x.needs(2), x -> x.gap(2), x -> x.gates(2), x -> x.shuts(1), x -> x.best(0), x -> x.houses(),
            x -> x.later(0, 99), x -> x.when(1), x -> x.run(99), x -> x.round(), x -> x.order(), x -> x.fits(), x -> x.asks(),
            x -> x.laws(), x -> x.looks(), x -> x.luck(0, 8, 9), x -> x.hits(8, 3, 4), x -> x.dare(0, 2), x -> x.rests(9),
            x -> x.years(12345, 60), x -> x.count(5), x -> x.row(0), x -> keptTwice(x)};
        for (int i = 0; i < calls.length; i++) {
            HopCourts x = Twin.rich();
            HopCourts y = Twin.rich();
            if (names[i].startsWith("keep")) {
                y.keep(0);
            }
            Check.due(names[i] + " answers", Twin.answer(calls[i], x) >= -2, true);
            x.order();
            y.order();
            same(names[i], x, y);
        }
        HopCourts x = Twin.rich();
        HopCourts y = Twin.rich();
        Check.law(x, "n*a-1");
        y.end(0);
        x.order();
        y.order();
        same("law", x, y);
    }

    private static long keptTwice(HopCourts x) {
        return (x.keep(0) ? 1 : 0) + (x.keep(0) ? 1 : 0);
    }

    /** Calls that do not read THE TEXT leave it, done or refused. */
    private static void actsLeaveTheText() {
        HopCourts x = Twin.rich();
        x.throwsOne();
        x.plays(2);
        x.passes();
        x.takes(1, 0);
        x.leaves(1, 0);
        x.grows(2, 4);
        x.undo();
        x.sheet(2, 3, 1, 1);
        x.keep(0);
        x.again(0);
        x.forget();
        x.denies();
        x.heard(0, 1);
        x.saw(0, 0);
        Check.due("signs", x.count(11), Twin.TEXT.length());
        Check.due("the same ones", x.rule(), -7);
    }
}
