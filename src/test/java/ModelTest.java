import java.lang.reflect.InvocationTargetException;
import java.lang.reflect.Method;
import java.lang.reflect.Modifier;
import java.util.ArrayList;
import java.util.Arrays;
import java.util.Comparator;
import java.util.List;
import java.util.Random;

/** Runs of drawn calls, on HopCourts and on PlainCourts: every answer and every told number must be the same. */
public final class ModelTest {
    private static final int RUNS = 400;
    private static final int CALLS = 150;
    private static final String[] TEXT_CALLS = {"court", "players", "rule", "game", "law"};

    private final Random random;
    private final HopCourts real = new HopCourts();
    private final PlainCourts plain = new PlainCourts();
    private final List<String> calls = new ArrayList<>();

    private ModelTest(long seed) {
        random = new Random(seed);
    }

    public static void main(String[] args) throws Exception {
        int runs = args.length > 0 ? Integer.parseInt(args[0]) : RUNS;
        List<Method> face = face();
        int[] seen = new int[face.size()];
        for (int run = 0; run < runs; run++) {
            if (!new ModelTest(run).runs(face, seen)) {
                System.out.println("ModelTest: run " + run + " differs");
                System.exit(1);
            }
        }
        for (int i = 0; i < seen.length; i++) {
            if (seen[i] == 0) {
                System.out.println("ModelTest: never called: " + face.get(i).getName());
                System.exit(1);
            }
        }
        System.out.println("ModelTest: " + runs + " runs, every answer the same");
    }

    private static List<Method> face() {
        List<Method> face = new ArrayList<>();
        for (Method m : HopCourts.class.getDeclaredMethods()) {
            if (Modifier.isPublic(m.getModifiers())) {
                face.add(m);
            }
        }
        face.sort(Comparator.comparing(Method::getName));
        return face;
    }

    private boolean runs(List<Method> face, int[] seen) throws Exception {
        begin();
        for (int i = 0; i < CALLS; i++) {
            int chosen = random.nextInt(face.size());
            Method m = face.get(chosen);
            String name = m.getName();
            boolean rare = name.equals("court") || name.equals("forget") || name.equals("denies") || name.equals("players")
                || name.equals("undo") || name.equals("again");
            if (rare && random.nextInt(4) != 0) {
                m = likely(face);
                name = m.getName();
            }
            if (Arrays.asList(TEXT_CALLS).contains(name)) {
                text(textFor(name));
            }
            seen[face.indexOf(m)]++;
            if (!same(m, arguments(m)) || !sameTold()) {
                return false;
            }
        }
        return sameState();
    }

    private Method likely(List<Method> face) {
        String[] names = {"throwsOne", "plays", "takes", "takes", "plays", "game", "leaves", "grows", "passes"};
        String name = names[random.nextInt(names.length)];
        return face.stream().filter(m -> m.getName().equals(name)).findFirst().get();
    }

    /** Most runs begin with a court, players and a rule by which throws are right often. */
    private void begin() throws Exception {
        if (random.nextInt(10) == 0) {
            return;
        }
        if (random.nextInt(3) > 0) {
            text(digits("12", 1 + random.nextInt(8)));
            same(HopCourts.class.getMethod("court"), new Object[0]);
        }
        text(lines(1 + random.nextInt(4)));
        same(HopCourts.class.getMethod("players"), new Object[0]);
        text(new String[] {"0", "n>a", "n=6", "f*0", "(a+n)/9", "i*n>5"}[random.nextInt(6)]);
        same(HopCourts.class.getMethod("rule"), new Object[0]);
        for (int i = 0; i < 4; i++) {
            same(HopCourts.class.getMethod("plays", int.class), new Object[] {60});
            same(HopCourts.class.getMethod("passes"), new Object[0]);
        }
        for (int i = 0; i < 12; i++) {
            Object[] who = {random.nextInt(4), random.nextInt(16)};
            same(HopCourts.class.getMethod("takes", int.class, int.class), who);
        }
    }

    private Object[] arguments(Method m) {
        Object[] values = new Object[m.getParameterCount()];
        for (int i = 0; i < values.length; i++) {
            values[i] = argument(m.getName(), i);
        }
        return values;
    }

    private int argument(String name, int i) {
        if (random.nextInt(40) == 0) {
            return new int[] {-1, Integer.MIN_VALUE, Integer.MAX_VALUE, 100, 61}[random.nextInt(5)];
        }
        switch (name) {
            case "sign":
            case "years":
                return i == 0 ? random.nextInt() : 1 + random.nextInt(60);
            case "plays":
                return random.nextInt(9) == 0 ? random.nextInt(63) : random.nextInt(8);
            case "run":
            case "later":
                return i == 0 && name.equals("later") ? random.nextInt(5) : random.nextInt(101);
            case "rests":
                return random.nextInt(20);
            case "sheet":
                int[] entry = {random.nextInt(5), random.nextInt(7) - 1, random.nextInt(20), random.nextInt(5)};
                return random.nextInt(4) == 0 && i > 1 ? random.nextInt() : entry[i];
            case "square":
                return i == 0 ? random.nextInt(17) : random.nextInt(4);
            case "player":
                return i == 0 ? random.nextInt(5) : random.nextInt(9);
            case "luck":
                return new int[] {random.nextInt(5), random.nextInt(10), random.nextInt(12)}[i];
            case "hits":
                return new int[] {random.nextInt(10), random.nextInt(6), random.nextInt(12)}[i];
            case "saw":
                return i == 0 ? random.nextInt(8) : random.nextInt(3) - 1;
            case "heard":
                return i == 0 ? random.nextInt(6) : random.nextInt(6);
            case "dare":
                return random.nextInt(i == 0 ? 5 : 10);
            case "keep":
            case "again":
                return random.nextInt(3);
            case "count":
                return random.nextInt(13);
            case "end":
                return random.nextInt(20);
            case "row":
                return random.nextInt(5);
            default:
                return i == 0 ? random.nextInt(5) : random.nextInt(18);
        }
    }

    private String textFor(String name) {
        String text;
        switch (name) {
            case "court":
                text = digits("12", random.nextInt(10));
                break;
            case "players":
                text = lines(random.nextInt(3) == 0 ? random.nextInt(6) : random.nextInt(2));
                break;
            case "game":
                text = game(random.nextInt(12) == 0 ? 30 : random.nextInt(6));
                break;
            default:
                text = random.nextInt(8) == 0 ? "" : expression(0);
        }
        return random.nextInt(5) == 0 ? spoilt(text) : text;
    }

    private String spoilt(String text) {
        String signs = "0123456789;-+*/<>=()atrhfinlgx \u00ff\u0000";
        int at = random.nextInt(text.length() + 1);
        String sign = "" + signs.charAt(random.nextInt(signs.length()));
        return text.substring(0, at) + sign + text.substring(Math.min(text.length(), at + random.nextInt(3)));
    }

    private String digits(String of, int many) {
        StringBuilder b = new StringBuilder();
        for (int i = 0; i < many; i++) {
            b.append(of.charAt(random.nextInt(of.length())));
        }
        return b.toString();
    }

    private String lines(int many) {
        StringBuilder b = new StringBuilder();
        for (int i = 0; i < many; i++) {
            b.append(i == 0 ? "" : ";").append(digits("1234", 1)).append(digits("0123456789", 1));
        }
        return b.toString();
    }

    private String game(int acts) {
        StringBuilder b = new StringBuilder();
        for (int i = 0; i < acts; i++) {
            switch (random.nextInt(8)) {
                case 0:
                    b.append('/');
                    break;
                case 1:
                    b.append('g').append(digits("0123", 1)).append(digits("1234", 1));
                    break;
                case 2:
                    b.append('l').append(digits("0123", 1)).append(digits("01", 1)).append(digits("0123456789", 1));
                    break;
                case 3:
                    b.append('t').append(digits("0123", 1)).append(digits("01", 1)).append(digits("0123456789", 1));
                    break;
                default:
                    b.append('*');
            }
        }
        return b.toString();
    }

    private String expression(int depth) {
        String[] signs = {"<", ">", "=", "+", "-", "*", "/", "+-", "*-", "-"};
        int many = 1 + random.nextInt(4);
        StringBuilder b = new StringBuilder();
        for (int i = 0; i < many; i++) {
            b.append(i == 0 ? "" : signs[random.nextInt(signs.length)]);
            b.append(random.nextInt(8) == 0 ? "-" : "");
            int kind = random.nextInt(10);
            if (kind < 2 && depth < 5) {
                b.append('(').append(expression(depth + 1)).append(')');
            } else if (kind < 5) {
                b.append(digits("0123456789", 1 + random.nextInt(kind == 4 ? 4 : 1)));
            } else {
                b.append(digits("atrhfin", 1));
            }
        }
        return b.toString();
    }

    private void text(String signs) throws Exception {
        Method sign = HopCourts.class.getMethod("sign", int.class);
        Method end = HopCourts.class.getMethod("end", int.class);
        same(end, new Object[] {0});
        String cut = signs.substring(0, Math.min(80, signs.length()));
        for (int i = 0; i < cut.length(); i += 4) {
            int v = 0;
            for (int k = i; k < i + 4; k++) {
                v = v << 8 | (k < cut.length() ? cut.charAt(k) : 0);
            }
            same(sign, new Object[] {v});
        }
        same(end, new Object[] {cut.length()});
        calls.add("text " + cut);
    }

    private boolean sameTold() throws Exception {
        Method row = HopCourts.class.getMethod("row", int.class);
        Method count = HopCourts.class.getMethod("count", int.class);
        boolean same = same(count, new Object[] {10});
        for (int i = 0; i <= real.count(10); i++) {
            same &= same(row, new Object[] {i});
        }
        return same;
    }

    private boolean sameState() throws Exception {
        boolean same = true;
        for (int what = -1; what <= 12; what++) {
            same &= same(HopCourts.class.getMethod("count", int.class), new Object[] {what});
        }
        for (int what = 0; what < 9; what++) {
            for (int i = 0; i < 17; i++) {
                same &= same(HopCourts.class.getMethod("square", int.class, int.class), new Object[] {i, what});
                same &= same(HopCourts.class.getMethod("player", int.class, int.class), new Object[] {i, what});
            }
        }
        return same;
    }

    private boolean same(Method m, Object[] arguments) throws Exception {
        String call = m.getName() + Arrays.toString(arguments);
        String is = answer(m, real, arguments);
        String due = answer(PlainCourts.class.getMethod(m.getName(), m.getParameterTypes()), plain, arguments);
        calls.add(call + " = " + is);
        if (!is.equals(due)) {
            for (String c : calls.subList(Math.max(0, calls.size() - 40), calls.size())) {
                System.out.println("  " + c);
            }
            System.out.println(call + ": HopCourts answers " + is + ", PlainCourts " + due);
            return false;
        }
        return true;
    }

    private static String answer(Method m, Object on, Object[] arguments) throws IllegalAccessException {
        try {
            return String.valueOf(m.invoke(on, arguments));
        } catch (InvocationTargetException e) {
            return e.getCause().getClass().getName();
        }
    }
}
