import java.io.IOException;
import java.lang.reflect.Constructor;
import java.lang.reflect.Field;
import java.lang.reflect.Method;
import java.lang.reflect.Modifier;
import java.nio.file.Files;
import java.nio.file.Path;
import java.util.Set;
import java.util.TreeSet;

/** The public face of the document, and those rules of LANGUAGE.md that a text or a class file shows. */
public final class FaceTest {
    private static final String ARGUMENT = "IllegalArgumentException";
    private static final String STATE = "IllegalStateException";
    private static final String INDEX = "IndexOutOfBoundsException";
    private static final Set<String> FACE = Set.of(
        "int addServer() " + STATE,
        "int addDispatcher(int) " + ARGUMENT + " " + STATE,
        "int setPolicy(int,int) " + ARGUMENT,
        "int setJoinMode(int) " + ARGUMENT,
        "int setReportPeriod(int) " + ARGUMENT,
        "int setRandom(int) " + ARGUMENT,
        "boolean setUp(int,boolean) " + ARGUMENT,
        "int submit(int,int) " + ARGUMENT + " " + STATE,
        "int tick(int) " + ARGUMENT,
        "int length(int) " + ARGUMENT,
        "int work(int) " + ARGUMENT,
        "int registeredAt(int) " + ARGUMENT,
        "int idleCount(int) " + ARGUMENT,
        "int idleAt(int,int) " + ARGUMENT + " " + INDEX,
        "int knownLength(int,int) " + ARGUMENT,
        "int expectedLength(int,int) " + ARGUMENT + " " + STATE,
        "int submitted()",
        "int finished()",
        "int serverOf(int) " + INDEX,
        "int waitOf(int) " + INDEX,
        "double meanWait()",
        "int missed()",
        "int now()",
        "int undo() " + STATE,
        "long digest()");
    private static final String[] NOT_IN_THE_LANGUAGE = {
        "import ", "package ", "->", "::", "try ", "catch ", "finally", "synchronized", "assert ",
        "static {", "System.out", "System.nano", "new Random", "Math.random", "Thread", "Exact(", "while (true)"};

    private static final Check check = new Check();

    public static void main(String[] args) throws IOException, ReflectiveOperationException {
        faceIsTheDocuments();
        noneIsAConstant();
        nothingElseIsSeen();
        noInnerMethodBearsAPublicName();
        textKeepsToTheLanguage();
        check.end();
    }

    private static void faceIsTheDocuments() {
        Class<?> c = IdleDispatcher.class;
        check.due("public final", Modifier.toString(c.getModifiers()), "public final");
        check.due("constructors", c.getDeclaredConstructors().length, 1);
        for (Constructor<?> made : c.getDeclaredConstructors()) {
            check.due("constructor", made.toString(), "public IdleDispatcher()");
        }
        check.due("public methods", Face.ofTheClass().toString(), new TreeSet<>(FACE).toString());
    }

    private static void noneIsAConstant() throws ReflectiveOperationException {
        Field none = IdleDispatcher.class.getDeclaredField("NONE");
        check.due("NONE", none.toString(), "public static final int IdleDispatcher.NONE");
        check.due("NONE", none.getInt(null), -1);
    }

    private static void nothingElseIsSeen() {
        Class<?> c = IdleDispatcher.class;
        for (Method m : c.getDeclaredMethods()) {
            int kind = m.getModifiers();
            check.due(m + " is public or private", Modifier.isPublic(kind) || Modifier.isPrivate(kind), true);
        }
        for (Field f : c.getDeclaredFields()) {
            int kind = f.getModifiers();
            boolean right = f.getName().equals("NONE") ? Modifier.isPublic(kind) : Modifier.isPrivate(kind);
            check.due(f + " is NONE or private", right, true);
            check.due(f + " is final where it is static", !Modifier.isStatic(kind) || Modifier.isFinal(kind), true);
        }
        for (Class<?> inner : c.getDeclaredClasses()) {
            int kind = inner.getModifiers();
            check.due(inner + " is private static", Modifier.isPrivate(kind) && Modifier.isStatic(kind), true);
            check.due(inner + " has some twenty fields at most", inner.getDeclaredFields().length <= 20, true);
        }
    }

    private static void noInnerMethodBearsAPublicName() {
        Set<String> names = new TreeSet<>();
        for (String method : FACE) {
            names.add(method.substring(method.indexOf(' ') + 1, method.indexOf('(')));
        }
        for (Method m : IdleDispatcher.class.getDeclaredMethods()) {
            check.due(m + " has a name of its own", Modifier.isPublic(m.getModifiers()) || !names.contains(m.getName()), true);
        }
        for (Class<?> inner : IdleDispatcher.class.getDeclaredClasses()) {
            for (Method m : inner.getDeclaredMethods()) {
                check.due(m + " has a name of its own", names.contains(m.getName()), false);
                check.due(m + " takes seven at most", m.getParameterCount() <= 7, true);
            }
        }
    }

    private static void textKeepsToTheLanguage() throws IOException {
        String text = Files.readString(Path.of("src/main/java/IdleDispatcher.java"));
        for (String word : NOT_IN_THE_LANGUAGE) {
            check.due("the text has '" + word + "'", text.contains(word), false);
        }
        check.due("signs 1 to 127", text.chars().allMatch(sign -> sign > 0 && sign < 128), true);
    }
}
