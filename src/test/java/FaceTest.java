import java.io.IOException;
import java.lang.reflect.Constructor;
import java.lang.reflect.Field;
import java.lang.reflect.Method;
import java.lang.reflect.Modifier;
import java.nio.file.Files;
import java.nio.file.Path;
import java.util.Set;
import java.util.TreeSet;
import java.util.regex.Matcher;
import java.util.regex.Pattern;

/** The public face of the document, and those rules of LANGUAGE.md that can be seen from outside. */
public final class FaceTest {
    private static final String[] METHODS = {"clear()", "job()", "operation(int,int,int)", "before(int,int)",
        "free(int,int)", "arc(int,int)", "told(int,int)", "length()", "load(int)", "select(int)", "solve()",
        "optima()", "at(int,int)", "draft(int,int)", "check()", "adopt()", "count(int)"};
    private static final String OUTSIDE = "\\b(synchronized|assert|finally|import|volatile|transient|native|"
        + "\\w+Exact|System\\.(?!arraycopy)\\w+|Object|Thread|hashCode|toString)\\b|->|::";
    private static int wrong = 0;

    public static void main(String[] args) throws IOException {
        constants();
        methods();
        nothingElseIsVisible();
        noRowIsMadeByACall();
        source();
        System.out.println(wrong == 0 ? "the face is as told" : wrong + " faults of the face");
        if (wrong != 0) {
            System.exit(1);
        }
    }

    private static void due(String what, Object got, Object want) {
        if (!got.equals(want)) {
            wrong++;
            System.out.println(what + " is " + got + ", due is " + want);
        }
    }

    private static void constants() {
        due("NONE", JobShop.NONE, -1);
        due("BAD", JobShop.BAD, -2);
        due("FULL", JobShop.FULL, -3);
        due("ROUND", JobShop.ROUND, -4);
        due("NO_WAY", JobShop.NO_WAY, -5);
        for (Field f : JobShop.class.getFields()) {
            int how = f.getModifiers();
            due("type of " + f, f.getType(), int.class);
            due("public static final " + f, how, Modifier.PUBLIC | Modifier.STATIC | Modifier.FINAL);
        }
    }

    private static void methods() {
        Set<String> want = new TreeSet<>(Set.of(METHODS));
        Set<String> got = new TreeSet<>();
        for (Method m : JobShop.class.getDeclaredMethods()) {
            if (Modifier.isPublic(m.getModifiers())) {
                StringBuilder name = new StringBuilder(m.getName()).append('(');
                for (int k = 0; k < m.getParameterCount(); k++) {
                    name.append(k == 0 ? "" : ",").append(m.getParameterTypes()[k]);
                }
                got.add(name.append(')').toString());
                due("the answer of " + m.getName(), m.getReturnType(), int.class);
                due("no more than public: " + m.getName(), m.getModifiers(), Modifier.PUBLIC);
                due("told to be thrown by " + m.getName(), m.getExceptionTypes().length, 0);
            }
        }
        due("the public methods", got, want);
    }

    private static void nothingElseIsVisible() {
        due("public final", JobShop.class.getModifiers(), Modifier.PUBLIC | Modifier.FINAL);
        for (Method m : JobShop.class.getDeclaredMethods()) {
            int how = m.getModifiers();
            due("visible " + m, Modifier.isPublic(how) || Modifier.isPrivate(how) || m.isSynthetic(), true);
        }
        Set<String> fields = new TreeSet<>();
        for (Field f : JobShop.class.getDeclaredFields()) {
            if (!Modifier.isPrivate(f.getModifiers())) {
                fields.add(f.getName());
            }
        }
        due("visible fields", fields, new TreeSet<>(Set.of("NONE", "BAD", "FULL", "ROUND", "NO_WAY")));
        Constructor<?>[] made = JobShop.class.getDeclaredConstructors();
        due("constructors", made.length, 1);
        due("constructor", made[0].getParameterCount(), 0);
        due("public constructor", made[0].getModifiers(), Modifier.PUBLIC);
        Set<String> face = new TreeSet<>();
        for (String name : METHODS) {
            face.add(name.substring(0, name.indexOf('(')));
        }
        for (Class<?> inside : JobShop.class.getDeclaredClasses()) {
            due("static " + inside, Modifier.isStatic(inside.getModifiers()), true);
            for (Method m : inside.getDeclaredMethods()) {
                due("a name of the face in " + m, face.contains(m.getName()), false);
            }
        }
    }

    /** A long run must not fill the room: 512 calls of the dearest kind may make next to nothing. */
    private static void noRowIsMadeByACall() throws IOException {
        String text = code();
        int calls = text.indexOf("public int clear()");
        int inside = text.indexOf("private static final class");
        due("new in a call", text.substring(calls, inside).contains("new "), false);
        Matcher made = Pattern.compile("(?m)^.*\\bnew\\b.*$").matcher(text.substring(inside));
        while (made.find()) {
            due("a row of the constructor: " + made.group(), made.group().contains(" final int[] "), true);
        }
    }

    private static void source() throws IOException {
        Matcher outside = Pattern.compile(OUTSIDE).matcher(code());
        while (outside.find()) {
            due("outside the language", outside.group(), "");
        }
    }

    /** The source without its comments. */
    private static String code() throws IOException {
        String text = Files.readString(Path.of("src/main/java/JobShop.java"));
        return text.replaceAll("(?s)/\\*.*?\\*/", "").replaceAll("//[^\n]*", "");
    }
}
