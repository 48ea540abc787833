import java.lang.reflect.Constructor;
import java.lang.reflect.Field;
import java.lang.reflect.Method;
import java.lang.reflect.Modifier;
import java.nio.charset.StandardCharsets;
import java.nio.file.Files;
import java.nio.file.Path;
import java.util.Arrays;
import java.util.NoSuchElementException;
import java.util.Set;
import java.util.TreeSet;

/** The public face of the document, and what of LANGUAGE.md can be seen from outside or from the file's words. */
public final class FaceTest {
    private static final String[] FACE = {
        "int sign(int)", "boolean end(int)", "int court()", "int players()", "int rule()", "int square(int, int)",
        "int player(int, int)", "int sheet(int, int, int, int)", "int throwsOne()", "int plays(int)", "int passes()",
        "int takes(int, int)", "int leaves(int, int)", "int grows(int, int)", "int game()", "int undo()",
        "int hop(int, int)", "int ways(int, int)", "int traps(int)", "int needs(int)", "int gap(int)", "int gates(int)",
        "int shuts(int)", "int best(int)", "int houses()", "int later(int, int)", "int when(int)", "int run(int)",
        "int round()", "int order()", "int heard(int, int)", "int forget()", "int fits()", "int asks()",
        "int saw(int, int)", "int denies()", "int laws()", "int looks()", "int luck(int, int, int)",
        "int hits(int, int, int)", "int dare(int, int)", "int rests(int)", "int law()", "int years(int, int)",
        "boolean keep(int)", "boolean again(int)", "int count(int)", "long row(int)"};

    public static void main(String[] args) throws Exception {
        members();
        fields();
        insideClasses();
        words();
        Check.end("FaceTest");
    }

    private static void members() {
        Check.due("public", Modifier.isPublic(HopCourts.class.getModifiers()), true);
        Check.due("final", Modifier.isFinal(HopCourts.class.getModifiers()), true);
        Set<String> due = new TreeSet<>(Arrays.asList(FACE));
        for (Method m : HopCourts.class.getDeclaredMethods()) {
            String types = Arrays.toString(m.getParameterTypes());
            String told = m.getReturnType() + " " + m.getName() + "(" + types.substring(1, types.length() - 1) + ")";
            boolean isPublic = Modifier.isPublic(m.getModifiers());
            Check.due(told + " is public or private", isPublic || Modifier.isPrivate(m.getModifiers()), true);
            Check.due(told + " is of the face, if public", !isPublic || due.remove(told), true);
            boolean throwsIt = Arrays.asList("square", "player", "row").contains(m.getName());
            Check.due(told + " tells of its exception", m.getExceptionTypes().length, throwsIt ? 1 : 0);
            if (throwsIt) {
                Check.due(told, m.getExceptionTypes()[0] == NoSuchElementException.class, true);
            }
        }
        Check.due("missing: " + due, due.size(), 0);
        Constructor<?>[] made = HopCourts.class.getDeclaredConstructors();
        Check.due("one constructor", made.length, 1);
        Check.due("it is public", Modifier.isPublic(made[0].getModifiers()) && made[0].getParameterCount() == 0, true);
    }

    private static void fields() {
        Check.due("NONE", HopCourts.NONE, -1);
        for (Field f : HopCourts.class.getDeclaredFields()) {
            int m = f.getModifiers();
            Check.due(f + " is private, but for NONE", Modifier.isPrivate(m) || f.getName().equals("NONE"), true);
            Check.due(f + ": static ones are final", !Modifier.isStatic(m) || Modifier.isFinal(m), true);
        }
    }

    private static void insideClasses() {
        Set<String> publicNames = new TreeSet<>();
        for (String told : FACE) {
            publicNames.add(told.substring(told.indexOf(' ') + 1, told.indexOf('(')));
        }
        Class<?>[] inside = HopCourts.class.getDeclaredClasses();
        Check.due("some twelve classes", inside.length < 12, true);
        for (Class<?> c : inside) {
            int m = c.getModifiers();
            Check.due(c + " is static", Modifier.isStatic(m) && !Modifier.isPublic(m) && !Modifier.isProtected(m), true);
            for (Method method : c.getDeclaredMethods()) {
                Check.due(method + " bears no public name", publicNames.contains(method.getName()), false);
            }
            for (Field f : c.getDeclaredFields()) {
                int of = f.getModifiers();
                Check.due(f + ": static ones are final", !Modifier.isStatic(of) || Modifier.isFinal(of), true);
            }
        }
    }

    private static void words() throws Exception {
        String file = Files.readString(Path.of("src/main/java/HopCourts.java"), StandardCharsets.ISO_8859_1);
        String code = file.replaceAll("(?s)/\\*.*?\\*/", " ").replaceAll("//[^\n]*", " ");
        for (String word : new String[] {"->", "::", "catch", "finally", "synchronized", "assert", "package", "instanceof",
            "String.", "Random", "currentTimeMillis", "nanoTime", "Exact", "static {", "hashCode", "equals"}) {
            Check.due("has no " + word, code.contains(word), false);
        }
        Check.due("one import", code.split("\\bimport\\b", -1).length, 2);
        Check.due("that of the document", code.contains("import java.util.NoSuchElementException;"), true);
        Check.due("signs 1 to 127", file.chars().allMatch(c -> c >= 1 && c <= 127), true);
    }
}
