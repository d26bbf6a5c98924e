import java.io.IOException;
import java.lang.reflect.Constructor;
import java.lang.reflect.Field;
import java.lang.reflect.Method;
import java.lang.reflect.Modifier;
import java.nio.file.Files;
import java.nio.file.Path;
import java.util.Arrays;
import java.util.Set;
import java.util.TreeSet;

/** The class shows the document's face and nothing else, and its source keeps to LANGUAGE.md where words tell. */
public final class FaceTest {
    private static final String INDEX = " java.lang.IndexOutOfBoundsException";
    private static final String ARGUMENT = " java.lang.IllegalArgumentException";
    private static final String STATE = " java.lang.IllegalStateException";
    private static final String[] FACE = {
        "boolean wall(int,int,boolean)" + INDEX + STATE,
        "int draw(int)" + ARGUMENT,
        "void spread(int)" + ARGUMENT,
        "void drive(int)" + INDEX + STATE,
        "int read(int,int)" + INDEX + ARGUMENT + STATE,
        "int toRead(int,int,int)" + INDEX,
        "int samples()" + STATE,
        "int sample(int)" + INDEX,
        "int count(int,int)" + INDEX + STATE,
        "long belief(int,int)" + INDEX + STATE,
        "long beliefAnew(int,int)" + INDEX + STATE,
        "int mode(boolean)" + STATE,
        "int mean(boolean,boolean)" + STATE,
        "int share(int,int,int,int,boolean)" + INDEX + ARGUMENT + STATE,
        "int best(int)" + INDEX + STATE,
        "int doubt()" + STATE,
    };
    private static final String[] FORBIDDEN = {
        "package ", "import ", "->", "::", "finally", "synchronized", "assert ", "catch", "try ",
        "toString", "equals(", "hashCode", "Thread", "Random", "System.out", "System.err",
        "nanoTime", "currentTimeMillis", "getenv", "getProperty", "Exact(", "clone(",
    };

    private final Checks checks = new Checks();

    public static void main(String[] args) throws IOException {
        FaceTest test = new FaceTest();
        test.face();
        test.innerClasses();
        test.source(args.length > 0 ? args[0] : "src/main/java/Particleway.java");
        test.checks.end();
    }

    private void face() {
        Class<?> one = Particleway.class;
        checks.holds("public and final", Modifier.isPublic(one.getModifiers()) && Modifier.isFinal(one.getModifiers()));
        Set<String> names = new TreeSet<>();
        Set<String> methods = new TreeSet<>();
        for (Method method : one.getDeclaredMethods()) {
            if (!Modifier.isPrivate(method.getModifiers())) {
                checks.holds(method + " is public and no more", method.getModifiers() == Modifier.PUBLIC);
                names.add(method.getName());
                methods.add(signature(method));
            }
        }
        checks.holds("the methods are " + methods, methods.equals(new TreeSet<>(Arrays.asList(FACE))));
        for (Method method : one.getDeclaredMethods()) {
            checks.holds("private, by a name of its own: " + method,
                    !Modifier.isPrivate(method.getModifiers()) || !names.contains(method.getName()));
        }
        Constructor<?>[] constructors = one.getDeclaredConstructors();
        checks.due("constructors", constructors.length, 1);
        checks.holds("without arguments", constructors[0].getParameterCount() == 0
                && constructors[0].getModifiers() == Modifier.PUBLIC);
        for (Field field : one.getDeclaredFields()) {
            checks.holds("NONE, or private: " + field,
                    field.getName().equals("NONE") || Modifier.isPrivate(field.getModifiers()));
        }
        checks.due("public fields", one.getFields().length, 1);
    }

    private static String signature(Method method) {
        StringBuilder text = new StringBuilder();
        text.append(method.getReturnType()).append(' ').append(method.getName()).append('(');
        for (int i = 0; i < method.getParameterCount(); i++) {
            text.append(i > 0 ? "," : "").append(method.getParameterTypes()[i]);
        }
        text.append(')');
        for (Class<?> thrown : method.getExceptionTypes()) {
            text.append(' ').append(thrown.getName());
        }
        return text.toString();
    }

    private void innerClasses() {
        Class<?>[] inner = Particleway.class.getDeclaredClasses();
        checks.holds("at most twelve classes", inner.length <= 11);
        for (Class<?> one : inner) {
            checks.holds(one + " is static", Modifier.isStatic(one.getModifiers()));
            checks.holds(one + " is not shown",
                    !Modifier.isPublic(one.getModifiers()) && !Modifier.isProtected(one.getModifiers()));
            checks.holds(one + " has some twenty fields at most", one.getDeclaredFields().length <= 20);
            for (Field field : one.getDeclaredFields()) {
                checks.holds("static is final: " + field,
                        !Modifier.isStatic(field.getModifiers()) || Modifier.isFinal(field.getModifiers()));
            }
        }
    }

    private void source(String path) throws IOException {
        String source = Files.readString(Path.of(path));
        for (String word : FORBIDDEN) {
            checks.holds("the source is without '" + word + "'", !source.contains(word));
        }
    }
}
