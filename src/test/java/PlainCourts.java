import java.math.BigInteger;
import java.util.ArrayList;
import java.util.Collections;
import java.util.Comparator;
import java.util.List;
import java.util.NoSuchElementException;
import java.util.TreeSet;

/**
 * The document once more, as plainly and as slowly as can be: ways are tried one by one, sets one by one, rules are
 * cut into texts. ModelTest compares HopCourts with it.
 */
public final class PlainCourts {
    private static final class Player {
        int reach;
        int aim;
        int place;
        int faults;
        int rights;
        TreeSet<Integer> houses = new TreeSet<>();

        Player copy() {
            Player p = new Player();
            p.reach = reach;
            p.aim = aim;
            p.place = place;
            p.faults = faults;
            p.rights = rights;
            p.houses = new TreeSet<>(houses);
            return p;
        }
    }

    private static final class State {
        List<Player> players = new ArrayList<>();
        int turn;
        int throwsMade;

        State copy() {
            State s = new State();
            for (Player p : players) {
                s.players.add(p.copy());
            }
            s.turn = turn;
            s.throwsMade = throwsMade;
            return s;
        }

        int faults() {
            return players.stream().mapToInt(p -> p.faults).sum();
        }
    }

    private String court = "121";
    private String rule = "";
    private String text = "";
    private State now = new State();
    private List<State> past = new ArrayList<>();
    private State[] kept = new State[2];
    private List<Long> told = new ArrayList<>();
    private List<int[]> heard = new ArrayList<>();
    private List<int[]> seen = new ArrayList<>();

    private void tell(long... numbers) {
        told.clear();
        for (long n : numbers) {
            told.add(n);
        }
    }

    private String takeText() {
        String was = text;
        text = "";
        return was;
    }

    private int rows() {
        return court.length();
    }

    private int squares() {
        return court.chars().map(c -> c - '0').sum();
    }

    private int rowOf(int square) {
        int before = 0;
        for (int row = 0; row < rows(); row++) {
            before += court.charAt(row) - '0';
            if (square < before) {
                return row;
            }
        }
        return rows();
    }

    private boolean isPlayer(int player) {
        return player >= 0 && player < now.players.size();
    }

    private boolean isSquare(int square) {
        return square >= 0 && square < squares();
    }

    private static boolean othersHouse(State s, int player, int square) {
        for (int i = 0; i < s.players.size(); i++) {
            if (i != player && s.players.get(i).houses.contains(square)) {
                return true;
            }
        }
        return false;
    }

    private boolean nobodys(int square) {
        return !othersHouse(now, -1, square);
    }

    private int goal(State s, int player) {
        int square = s.players.get(player).place;
        while (square < squares() && othersHouse(s, player, square)) {
            square++;
        }
        return square;
    }

    private boolean isFree(State s, int player, TreeSet<Integer> barred, int row) {
        for (int square = 0; square < squares(); square++) {
            if (rowOf(square) == row && !barred.contains(square) && !othersHouse(s, player, square)) {
                return true;
            }
        }
        return false;
    }

    /** All rows of ROWS on which a player lands, in order. */
    private List<List<Integer>> allWays(State s, int player, TreeSet<Integer> barred, int reach) {
        List<List<Integer>> found = new ArrayList<>();
        boolean[] free = new boolean[rows()];
        boolean[] own = new boolean[rows()];
        for (int row = 0; row < rows(); row++) {
            free[row] = isFree(s, player, barred, row);
        }
        for (int square : s.players.get(player).houses) {
            own[rowOf(square)] = true;
        }
        for (int set = 0; set < 1 << rows(); set++) {
            List<Integer> landed = new ArrayList<>();
            boolean can = true;
            int at = -1;
            int reachNow = reach;
            for (int row = 0; row <= rows(); row++) {
                if (row == rows() || (set & 1 << row) != 0) {
                    can &= row - at <= reachNow && (row == rows() || free[row]);
                    at = row;
                    if (row < rows()) {
                        landed.add(row);
                        reachNow = reach + (own[row] ? 1 : 0);
                    }
                }
            }
            if (can) {
                found.add(landed);
            }
        }
        found.sort(PlainCourts::compareRows);
        return found;
    }

    private static int compareRows(List<Integer> one, List<Integer> other) {
        for (int i = 0; i < one.size() && i < other.size(); i++) {
            if (!one.get(i).equals(other.get(i))) {
                return one.get(i) - other.get(i);
            }
        }
        return one.size() - other.size();
    }

    private static TreeSet<Integer> set(int... squares) {
        TreeSet<Integer> set = new TreeSet<>();
        for (int s : squares) {
            set.add(s);
        }
        return set;
    }

    private boolean canHop(State s, int player, TreeSet<Integer> barred) {
        return !allWays(s, player, barred, s.players.get(player).reach).isEmpty();
    }

    private int off(State s, String by, int player) {
        return Math.max(-3, Math.min(3, value(s, by.isEmpty() ? "n>a" : by, player)));
    }

    /** Cuts a rule at the sign that binds least, the last of such; the rule is known to be right. */
    private int value(State s, String r, int player) {
        for (String signs : new String[] {"<>=", "+-", "*/"}) {
            int depth = 0;
            for (int i = r.length() - 1; i > 0; i--) {
                char c = r.charAt(i);
                depth += c == ')' ? 1 : c == '(' ? -1 : 0;
                boolean binary = "+-*/<>=(".indexOf(r.charAt(i - 1)) < 0;
                if (depth == 0 && binary && signs.indexOf(c) >= 0) {
                    return join(c, value(s, r.substring(0, i), player), value(s, r.substring(i + 1), player));
                }
            }
        }
        if (r.charAt(0) == '-') {
            return -value(s, r.substring(1), player);
        }
        if (r.charAt(0) == '(') {
            return value(s, r.substring(1, r.length() - 1), player);
        }
        Player p = s.players.get(player);
        switch (r) {
            case "a":
                return p.aim;
            case "t":
                return goal(s, player);
            case "r":
                return rowOf(goal(s, player));
            case "h":
                return p.houses.size();
            case "f":
                return p.faults;
            case "i":
                return player;
            case "n":
                return s.throwsMade % 7;
            default:
                return Integer.parseInt(r);
        }
    }

    private static int join(char sign, int left, int right) {
        switch (sign) {
            case '+':
                return left + right;
            case '-':
                return left - right;
            case '*':
                return left * right;
            case '/':
                return right == 0 ? 0 : left / right;
            case '<':
                return left < right ? 1 : 0;
            case '>':
                return left > right ? 1 : 0;
            default:
                return left == right ? 1 : 0;
        }
    }

    /** The place of the first wrong sign of a rule, -1 for none: by what may follow what. */
    private static int wrongRule(String r) {
        if (r.isEmpty()) {
            return -1;
        }
        List<Boolean> compared = new ArrayList<>(List.of(false));
        boolean thingDue = true;
        int digits = 0;
        for (int p = 0; p < r.length(); p++) {
            char c = r.charAt(p);
            int last = compared.size() - 1;
            if (p == 40) {
                return 40;
            } else if (c >= '0' && c <= '9' && (thingDue || digits > 0 && digits < 3)) {
                digits++;
                thingDue = false;
            } else if (thingDue && c == '(' && compared.size() <= 4) {
                compared.add(false);
            } else if (thingDue && "atrhfin".indexOf(c) >= 0) {
                thingDue = false;
                digits = 0;
            } else if (thingDue) {
                if (c != '-') {
                    return p;
                }
            } else if (c == ')' && last > 0) {
                compared.remove(last);
                digits = 0;
            } else if ("+-*/".indexOf(c) >= 0 || "<>=".indexOf(c) >= 0 && !compared.get(last)) {
                compared.set(last, compared.get(last) || "<>=".indexOf(c) >= 0);
                thingDue = true;
                digits = 0;
            } else {
                return p;
            }
        }
        return thingDue || compared.size() > 1 ? r.length() : -1;
    }

    private boolean makeThrow(State s, String by) {
        int player = s.turn;
        Player p = s.players.get(player);
        int goal = goal(s, player);
        boolean right = off(s, by, player) == 0 && goal < squares() && canHop(s, player, set(goal));
        if (right) {
            p.place = goal + 1;
            if (goal(s, player) == squares()) {
                p.rights = Math.min(9, p.rights + 1);
                p.place = 0;
            }
        } else {
            p.faults = Math.min(99, p.faults + 1);
            s.turn = (player + 1) % s.players.size();
        }
        s.throwsMade++;
        return right;
    }

    private void remember(State before) {
        past.add(before);
        if (past.size() > 12) {
            past.remove(0);
        }
    }

    public int sign(int v) {
        if (text.length() + 4 > 80) {
            return -1;
        }
        text += "" + (char) (v >>> 24) + (char) (v >>> 16 & 255) + (char) (v >>> 8 & 255) + (char) (v & 255);
        return text.length();
    }

    public boolean end(int n) {
        if (n < 0 || n > text.length()) {
            return false;
        }
        text = text.substring(0, n);
        return true;
    }

    public int court() {
        String t = takeText();
        for (int p = 0; p < t.length(); p++) {
            if (p == 8 || t.charAt(p) != '1' && t.charAt(p) != '2') {
                return -1 - p;
            }
        }
        if (t.isEmpty()) {
            return -1;
        }
        court = t;
        now = new State();
        past.clear();
        kept = new State[2];
        heard.clear();
        seen.clear();
        return squares();
    }

    public int players() {
        String t = takeText();
        int had = now.players.size();
        for (int p = 0; p <= t.length() && !t.isEmpty(); p++) {
            boolean ended = p == t.length();
            if (ended && p % 3 == 2) {
                break;
            }
            String may = p == 11 ? "" : p % 3 == 0 ? had + p / 3 < 4 ? "1234" : "" : p % 3 == 1 ? "0123456789" : ";";
            if (ended || may.indexOf(t.charAt(p)) < 0) {
                return -1 - p;
            }
        }
        if (t.isEmpty()) {
            return 0;
        }
        for (String line : t.split(";")) {
            Player p = new Player();
            p.reach = line.charAt(0) - '0';
            p.aim = line.charAt(1) - '0';
            now.players.add(p);
        }
        past.clear();
        kept = new State[2];
        return now.players.size() - had;
    }

    public int rule() {
        String t = takeText();
        int wrong = wrongRule(t);
        if (wrong >= 0) {
            return -1 - wrong;
        }
        rule = t;
        return 0;
    }

    public int square(int square, int what) {
        if (!isSquare(square) || what < 0 || what > 2) {
            throw new NoSuchElementException();
        }
        if (what == 0) {
            return rowOf(square);
        }
        int bits = 0;
        for (int i = 0; i < now.players.size(); i++) {
            if (what == 1 && now.players.get(i).houses.contains(square)) {
                return i;
            }
            bits += goal(now, i) == square ? 1 << i : 0;
        }
        return what == 1 ? 4 : bits;
    }

    public int player(int player, int what) {
        if (!isPlayer(player) || what < 0 || what > 7) {
            throw new NoSuchElementException();
        }
        Player p = now.players.get(player);
        int bits = p.houses.stream().mapToInt(h -> 1 << h).sum();
        int off = 10 + off(now, rule, player);
        return new int[] {p.reach, p.aim, p.place, goal(now, player), bits, p.faults, p.rights, off}[what];
    }

    public int sheet(int kind, int n, int f, int step) {
        if (kind < 0 || kind > 3 || n > 4) {
            return -1;
        }
        if (kind < 3 && n < 0) {
            return -2;
        }
        int sum = 0;
        for (int i = 0; i < now.players.size(); i++) {
            int entry = f + i * step;
            entry = kind == 0 ? (byte) entry : kind == 1 ? (short) entry : entry;
            now.players.get(i).aim = kind == 3 || i >= n ? 0 : Math.max(0, Math.min(9, entry));
            sum += now.players.get(i).aim;
        }
        return kind == 3 ? -3 : sum;
    }

    public int throwsOne() {
        if (now.players.isEmpty()) {
            return -1;
        }
        remember(now.copy());
        int stone = goal(now, now.turn) + off(now, rule, now.turn);
        boolean right = makeThrow(now, rule);
        tell(100 + stone, now.turn);
        return right ? 1 : 0;
    }

    public int plays(int n) {
        if (n < 1 || n > 60 || now.players.isEmpty()) {
            return -1;
        }
        remember(now.copy());
        int right = 0;
        for (int i = 0; i < n; i++) {
            right += makeThrow(now, rule) ? 1 : 0;
        }
        tell(now.players.stream().mapToLong(p -> p.place).toArray());
        return right;
    }

    public int passes() {
        if (now.players.isEmpty()) {
            return -1;
        }
        remember(now.copy());
        now.turn = (now.turn + 1) % now.players.size();
        return now.turn;
    }

    public int takes(int player, int square) {
        if (!isPlayer(player) || !isSquare(square)) {
            return -1;
        }
        if (now.players.get(player).rights == 0) {
            return -2;
        }
        if (!nobodys(square)) {
            return -3;
        }
        remember(now.copy());
        now.players.get(player).rights--;
        now.players.get(player).houses.add(square);
        return now.players.get(player).houses.size();
    }

    public int leaves(int player, int square) {
        if (!isPlayer(player) || !isSquare(square)) {
            return -1;
        }
        if (!now.players.get(player).houses.contains(square)) {
            return -2;
        }
        remember(now.copy());
        now.players.get(player).houses.remove(square);
        return now.players.get(player).houses.size();
    }

    public int grows(int player, int v) {
        if (!isPlayer(player) || v < 1 || v > 4) {
            return -1;
        }
        int was = now.players.get(player).reach;
        if (was == v) {
            return -2;
        }
        remember(now.copy());
        now.players.get(player).reach = v;
        return 10 + was;
    }

    public int game() {
        String t = takeText();
        List<String> acts = new ArrayList<>();
        String act = "";
        for (int p = 0; p < t.length(); p++) {
            char c = t.charAt(p);
            boolean stands = p < 60 && (act.isEmpty() ? "*/tlg".indexOf(c) >= 0 : c >= '0' && c <= '9');
            if (!stands) {
                return -1 - p;
            }
            act += c;
            if (act.length() == (act.charAt(0) == 'g' ? 3 : "tl".indexOf(act.charAt(0)) >= 0 ? 4 : 1)) {
                acts.add(act);
                act = "";
            }
        }
        if (!act.isEmpty()) {
            return -1 - t.length();
        }
        State before = now.copy();
        List<State> pastBefore = new ArrayList<>(past);
        int done = 0;
        while (done < acts.size() && act(acts.get(done)) >= 0) {
            done++;
        }
        past = pastBefore;
        if (done > 0) {
            remember(before);
        }
        tell(done < acts.size() ? 1 : 0, now.turn);
        return done;
    }

    private int act(String act) {
        switch (act.charAt(0)) {
            case '*':
                return throwsOne();
            case '/':
                return passes();
            case 't':
                return takes(act.charAt(1) - '0', Integer.parseInt(act.substring(2)));
            case 'l':
                return leaves(act.charAt(1) - '0', Integer.parseInt(act.substring(2)));
            default:
                return grows(act.charAt(1) - '0', act.charAt(2) - '0');
        }
    }

    public int undo() {
        if (past.isEmpty()) {
            return -1;
        }
        now = past.remove(past.size() - 1);
        return past.size();
    }

    public int hop(int player, int s) {
        if (!isPlayer(player) || s < 0 || s > squares()) {
            return -1;
        }
        List<List<Integer>> ways = allWays(now, player, set(s), now.players.get(player).reach);
        if (ways.isEmpty()) {
            return -2;
        }
        List<Integer> least = Collections.min(ways, Comparator.comparing(List<Integer>::size));
        tell(least.stream().mapToLong(i -> i).toArray());
        return least.size() + 1;
    }

    public int ways(int player, int s) {
        if (!isPlayer(player) || s < 0 || s > squares()) {
            return -1;
        }
        List<List<Integer>> ways = allWays(now, player, set(s), now.players.get(player).reach);
        if (ways.isEmpty()) {
            tell();
        } else {
            tell(ways.stream().mapToInt(List::size).max().getAsInt(), ways.stream().mapToInt(List::size).min().getAsInt());
        }
        return ways.size();
    }

    private int trapBits(State s, int player, int reach) {
        int bits = 0;
        for (int square = 0; square < squares(); square++) {
            if (!othersHouse(s, player, square) && allWays(s, player, set(square), reach).isEmpty()) {
                bits |= 1 << square;
            }
        }
        return bits;
    }

    public int traps(int player) {
        if (!isPlayer(player)) {
            return -1;
        }
        int bits = trapBits(now, player, now.players.get(player).reach);
        tell(Integer.bitCount(bits));
        return bits;
    }

    public int needs(int player) {
        if (!isPlayer(player)) {
            return -1;
        }
        for (int reach = 1; reach <= 9; reach++) {
            if (trapBits(now, player, reach) == 0) {
                tell(reach == 1 ? 0 : Integer.bitCount(trapBits(now, player, reach - 1)));
                return reach;
            }
        }
        return -2;
    }

    public int gap(int player) {
        if (!isPlayer(player)) {
            return -1;
        }
        for (int length = rows(); length > 0; length--) {
            for (int first = 0; first + length <= rows(); first++) {
                boolean barred = true;
                for (int row = first; row < first + length; row++) {
                    barred &= !isFree(now, player, set(), row);
                }
                if (barred) {
                    tell(first);
                    return length;
                }
            }
        }
        tell();
        return 0;
    }

    public int gates(int player) {
        if (!isPlayer(player)) {
            return -1;
        }
        int bits = 0;
        for (int square = 0; square < squares(); square++) {
            bits |= nobodys(square) && !canHop(now, player, set(square)) ? 1 << square : 0;
        }
        tell(Integer.bitCount(bits));
        return bits;
    }

    public int shuts(int player) {
        if (!isPlayer(player)) {
            return -1;
        }
        int least = -1;
        for (int bits = 0; bits < 1 << squares(); bits++) {
            if (least >= 0 && Integer.bitCount(bits) >= Integer.bitCount(least)) {
                continue;
            }
            TreeSet<Integer> taken = new TreeSet<>();
            boolean may = true;
            for (int square = 0; square < squares(); square++) {
                if ((bits & 1 << square) != 0) {
                    taken.add(square);
                    may &= nobodys(square);
                }
            }
            if (may && !canHop(now, player, taken)) {
                least = bits;
            }
        }
        if (least < 0) {
            return -2;
        }
        tell(least);
        return Integer.bitCount(least);
    }

    private int othersTraps(State s, int player) {
        int sum = 0;
        for (int i = 0; i < s.players.size(); i++) {
            sum += i == player ? 0 : Integer.bitCount(trapBits(s, i, s.players.get(i).reach));
        }
        return sum;
    }

    public int best(int player) {
        if (!isPlayer(player)) {
            return -1;
        }
        int best = -2;
        int most = -1;
        for (int square = 0; square < squares(); square++) {
            State then = now.copy();
            then.players.get(player).houses.add(square);
            if (nobodys(square) && othersTraps(then, player) > most) {
                best = square;
                most = othersTraps(then, player);
            }
        }
        if (best >= 0) {
            tell(most, othersTraps(now, player));
        }
        return best;
    }

    public int houses() {
        tell(now.players.stream().mapToLong(p -> p.houses.size()).toArray());
        return (int) told.stream().mapToLong(i -> i).sum();
    }

    private State ahead(int n, String by) {
        State s = now.copy();
        for (int i = 0; i < n; i++) {
            makeThrow(s, by);
        }
        return s;
    }

    public int later(int player, int n) {
        if (!isPlayer(player) || n < 0 || n > 99) {
            return -1;
        }
        Player p = ahead(n, rule).players.get(player);
        tell(p.rights, p.faults);
        return p.place;
    }

    public int when(int player) {
        if (!isPlayer(player)) {
            return -1;
        }
        State s = now.copy();
        for (int n = 1; n <= 99; n++) {
            makeThrow(s, rule);
            if (s.players.get(player).rights > now.players.get(player).rights) {
                tell(s.faults());
                return n;
            }
        }
        return -2;
    }

    public int run(int n) {
        if (n < 1 || n > 99 || now.players.isEmpty()) {
            return -1;
        }
        State s = now.copy();
        StringBuilder throwsAhead = new StringBuilder();
        for (int i = 0; i < n; i++) {
            throwsAhead.append(makeThrow(s, rule) ? '+' : '-');
        }
        int most = n;
        while (throwsAhead.indexOf("+".repeat(most)) < 0) {
            most--;
        }
        tell(most == 0 ? 0 : 1 + throwsAhead.indexOf("+".repeat(most)));
        return most;
    }

    public int round() {
        if (now.players.isEmpty()) {
            return -2;
        }
        List<String> were = new ArrayList<>();
        State s = now.copy();
        for (int n = 0; n <= 99; n++) {
            StringBuilder mark = new StringBuilder();
            for (Player p : s.players) {
                mark.append(p.place).append(' ').append(p.rights).append(' ').append(p.faults).append(' ');
            }
            mark.append(s.turn).append(' ').append(s.throwsMade % 7);
            if (were.contains(mark.toString())) {
                tell(were.indexOf(mark.toString()));
                return n;
            }
            were.add(mark.toString());
            makeThrow(s, rule);
        }
        return -2;
    }

    public int order() {
        List<Integer> all = new ArrayList<>();
        for (int i = 0; i < now.players.size(); i++) {
            all.add(i);
        }
        all.sort(Comparator.comparing((Integer i) -> -now.players.get(i).houses.size() - now.players.get(i).rights)
            .thenComparing(i -> -now.players.get(i).place).thenComparing(i -> now.players.get(i).faults));
        tell(all.stream().mapToLong(i -> i).toArray());
        return all.size();
    }

    private static boolean mayBeHeard(int what, int v) {
        int[][] may = {{1, 4}, {0, 9}, {0, 9}, {0, 1}, {0, 9}};
        return what >= 0 && what < 5 && v >= may[what][0] && v <= may[what][1];
    }

    public int heard(int what, int v) {
        if (!mayBeHeard(what, v) || heard.size() == 12) {
            return -1;
        }
        heard.add(new int[] {what, v});
        return heard.size();
    }

    public int forget() {
        int were = heard.size();
        heard.clear();
        return were;
    }

    private boolean isSo(int player, int what, int v) {
        Player p = now.players.get(player);
        return what == 0 ? p.reach == v : what == 1 ? p.aim >= v : what == 2 ? goal(now, player) >= v
            : what == 3 ? p.houses.isEmpty() == (v == 0) : p.faults >= v;
    }

    private List<Integer> fitting() {
        List<Integer> fitting = new ArrayList<>();
        for (int i = 0; i < now.players.size(); i++) {
            int player = i;
            if (heard.stream().allMatch(h -> isSo(player, h[0], h[1]))) {
                fitting.add(i);
            }
        }
        return fitting;
    }

    public int fits() {
        tell(fitting().size());
        return fitting().stream().mapToInt(i -> 1 << i).sum();
    }

    public int asks() {
        List<Integer> fitting = fitting();
        if (fitting.isEmpty()) {
            return -2;
        }
        int best = -2;
        long least = 99;
        for (int code = 0; code < 50; code++) {
            int what = code / 10;
            int v = code % 10;
            long so = fitting.stream().filter(i -> isSo(i, what, v)).count();
            long left = Math.max(so, fitting.size() - so);
            if (mayBeHeard(what, v) && left < least) {
                best = code;
                least = left;
            }
        }
        tell(least);
        return best;
    }

    public int saw(int n, int v) {
        if (n < 0 || n > 6 || v < -1 || v > 1 || seen.size() == 10) {
            return -1;
        }
        seen.add(new int[] {n, v});
        return seen.size();
    }

    public int denies() {
        int were = seen.size();
        seen.clear();
        return were;
    }

    private static int lawOff(int law, int n) {
        int off = 0;
        if (n > law / 7) {
            off++;
        }
        if (n < law % 7) {
            off--;
        }
        return off;
    }

    private List<Integer> fittingLaws() {
        List<Integer> laws = new ArrayList<>();
        for (int i = 0; i < 49; i++) {
            int law = i;
            if (seen.stream().allMatch(s -> lawOff(law, s[0]) == s[1])) {
                laws.add(law);
            }
        }
        return laws;
    }

    public int laws() {
        List<Integer> laws = fittingLaws();
        tell();
        if (!laws.isEmpty()) {
            tell(laws.get(0) / 7, laws.get(0) % 7);
        }
        return laws.size();
    }

    public int looks() {
        List<Integer> laws = fittingLaws();
        if (laws.isEmpty()) {
            return -2;
        }
        int best = -1;
        int least = 99;
        for (int n = 0; n <= 6; n++) {
            int[] left = new int[3];
            for (int law : laws) {
                left[1 + lawOff(law, n)]++;
            }
            int most = Math.max(left[0], Math.max(left[1], left[2]));
            if (most < least) {
                best = n;
                least = most;
            }
        }
        tell(least);
        return best;
    }

    private void tellFraction(BigInteger upper, BigInteger lower) {
        BigInteger by = upper.gcd(lower);
        tell(upper.divide(by).longValueExact(), lower.divide(by).longValueExact());
    }

    public int luck(int player, int k, int p) {
        if (!isPlayer(player) || k < 0 || k > 8 || p < 0 || p > 10) {
            return -1;
        }
        State s = now.copy();
        BigInteger upper = BigInteger.ONE;
        for (int i = 0; i < k; i++) {
            s.turn = player;
            upper = upper.multiply(BigInteger.valueOf(makeThrow(s, "0") ? p : 0));
        }
        tellFraction(upper, BigInteger.TEN.pow(k));
        return 0;
    }

    public int hits(int k, int m, int p) {
        if (k < 0 || k > 8 || m < 0 || m > k || p < 0 || p > 10) {
            return -1;
        }
        BigInteger upper = BigInteger.ZERO;
        for (int set = 0; set < 1 << k; set++) {
            if (Integer.bitCount(set) == m) {
                upper = upper.add(BigInteger.valueOf(p).pow(m).multiply(BigInteger.valueOf(10 - p).pow(k - m)));
            }
        }
        tellFraction(upper, BigInteger.TEN.pow(k));
        return 0;
    }

    /** Whether who moves the marker from a ROW (-1: START) wins. */
    private boolean wins(int player, int from, int k) {
        for (int to = from + 1; to <= from + k && to <= rows(); to++) {
            if (isWon(player, to, k)) {
                return true;
            }
        }
        return false;
    }

    private boolean isWon(int player, int to, int k) {
        return to == rows() || isFree(now, player, set(), to) && !wins(player, to, k);
    }

    public int dare(int player, int k) {
        if (!isPlayer(player) || k < 1 || k > 8) {
            return -1;
        }
        tell();
        for (int to = 0; to < k && to <= rows(); to++) {
            if (isWon(player, to, k)) {
                tell(to);
                return 1;
            }
        }
        return 0;
    }

    public int rests(int v) {
        if (v < 0 || v > 18) {
            return -1;
        }
        tell();
        int pairs = 0;
        for (int x = 0; x <= 9; x++) {
            for (int y = 0; y <= 9; y++) {
                boolean rest = true;
                for (int z = 0; z <= 9; z++) {
                    rest &= worth(z, y, v)[0] <= worth(x, y, v)[0] && worth(x, z, v)[1] <= worth(x, y, v)[1];
                }
                if (rest && pairs++ == 0) {
                    tell(x, y);
                }
            }
        }
        return pairs;
    }

    private static int[] worth(int x, int y, int v) {
        int[] worth = {3 * x, 3 * y};
        if (x + y > v) {
            worth[0] -= 2 * y;
            worth[1] -= 2 * x;
        }
        if (x != y) {
            worth[x < y ? 0 : 1]++;
        }
        return worth;
    }

    public int law() {
        String t = takeText();
        int wrong = wrongRule(t);
        if (wrong >= 0) {
            return -10000 - wrong;
        }
        if (now.players.isEmpty()) {
            return -2;
        }
        long[] right = {0, 0};
        State[] states = {now.copy(), now.copy()};
        for (int i = 0; i < 30; i++) {
            right[0] += makeThrow(states[0], t) ? 1 : 0;
            right[1] += makeThrow(states[1], rule) ? 1 : 0;
        }
        tell(right[0], right[1], states[0].faults(), states[1].faults());
        return (int) (right[0] - right[1]);
    }

    private int drawn;

    private int draw(int n) {
        drawn = drawn * 1103515245 + 12345;
        return (int) (Integer.toUnsignedLong(drawn) / 65536 % n);
    }

    public int years(int seed, int n) {
        if (n < 1 || n > 60) {
            return -1;
        }
        drawn = seed;
        State s = now.copy();
        int right = 0;
        for (int i = 0; i < n; i++) {
            int tells = draw(4);
            if (s.players.isEmpty()) {
                continue;
            }
            if (tells < 3) {
                right += makeThrow(s, rule) ? 1 : 0;
            } else {
                Player p = s.players.get(draw(s.players.size()));
                p.aim = draw(10);
            }
        }
        tell(s.faults(), s.turn);
        return right;
    }

    public boolean keep(int i) {
        if (i < 0 || i > 1) {
            return false;
        }
        kept[i] = now.copy();
        return true;
    }

    public boolean again(int i) {
        if (i < 0 || i > 1 || kept[i] == null) {
            return false;
        }
        now = kept[i].copy();
        past.clear();
        return true;
    }

    public int count(int what) {
        int rights = now.players.stream().mapToInt(p -> p.rights).sum();
        int[] all = {rows(), squares(), now.players.size(), now.turn, now.throwsMade, now.faults(), rights, heard.size(),
            seen.size(), past.size(), told.size(), text.length()};
        return what < 0 || what > 11 ? -1 : all[what];
    }

    public long row(int i) {
        if (i < 0 || i >= told.size()) {
            throw new NoSuchElementException();
        }
        return told.get(i);
    }
}
