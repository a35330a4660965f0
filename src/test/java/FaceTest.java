import java.lang.reflect.Constructor;
import java.lang.reflect.Field;
import java.lang.reflect.Method;
import java.lang.reflect.Modifier;
import java.util.Arrays;
import java.util.Set;
import java.util.TreeSet;

/** The public face: the document's constant, constructor and methods, and nothing else that is not private. */
public final class FaceTest {
    private static final String[] FACE = {
        "public int depth(int) throws IllegalArgumentException, IllegalStateException",
        "public int found(int) throws IllegalArgumentException, IllegalStateException",
        "public int open() throws IllegalStateException",
        "public int join(int, int) throws NoSuchElementException, IllegalArgumentException, IllegalStateException",
        "public int fail(int) throws NoSuchElementException, IllegalStateException",
        "public int stabilise(int) throws NoSuchElementException",
        "public int mend(int, int) throws NoSuchElementException",
        "public int handOver(int) throws NoSuchElementException",
        "public int spread(int) throws NoSuchElementException",
        "public int rounds(int) throws IllegalArgumentException, IllegalStateException",
        "public int look(int, int) throws NoSuchElementException, IllegalArgumentException",
        "public int hop(int) throws NoSuchElementException",
        "public int put(int, int, int) throws NoSuchElementException, IllegalArgumentException",
        "public int get(int, int) throws NoSuchElementException",
        "public int held(int, int, int) throws NoSuchElementException, IllegalArgumentException",
        "public int known(int, int) throws NoSuchElementException",
        "public int owner(int) throws IllegalArgumentException",
        "public boolean ideal()",
        "public int count(int) throws IllegalArgumentException",
    };

    public static void main(String[] args) throws Exception {
        methodsAreTheDocuments();
        noPrivateMethodBearsAPublicName();
        constantAndConstructor();
        Check.end();
    }

    private static void methodsAreTheDocuments() {
        Set<String> want = new TreeSet<>(Arrays.asList(FACE));
        Set<String> got = new TreeSet<>();
        for (Method m : KeyRing.class.getDeclaredMethods()) {
            if (!Modifier.isPrivate(m.getModifiers())) {
                got.add(written(m));
            }
        }
        for (String line : want) {
            Check.due("the face has " + line, got.contains(line), true);
        }
        for (String line : got) {
            Check.due("the document has " + line, want.contains(line), true);
        }
    }

    private static String written(Method m) {
        StringBuilder line = new StringBuilder(Modifier.toString(m.getModifiers()));
        line.append(' ').append(m.getReturnType().getSimpleName()).append(' ').append(m.getName());
        line.append('(').append(names(m.getParameterTypes())).append(')');
        if (m.getExceptionTypes().length > 0) {
            line.append(" throws ").append(names(m.getExceptionTypes()));
        }
        return line.toString();
    }

    private static String names(Class<?>[] types) {
        StringBuilder line = new StringBuilder();
        for (Class<?> type : types) {
            line.append(line.length() == 0 ? "" : ", ").append(type.getSimpleName());
        }
        return line.toString();
    }

    private static void noPrivateMethodBearsAPublicName() {
        Set<String> names = new TreeSet<>();
        for (String line : FACE) {
            names.add(line.substring(line.indexOf(' ', 7) + 1, line.indexOf('(')));
        }
        for (Method m : KeyRing.class.getDeclaredMethods()) {
            if (Modifier.isPrivate(m.getModifiers())) {
                Check.due("a public method is called " + m.getName(), names.contains(m.getName()), false);
            }
        }
    }

    private static void constantAndConstructor() throws Exception {
        Check.due("the class is public and final",
                KeyRing.class.getModifiers() == (Modifier.PUBLIC | Modifier.FINAL), true);
        for (Field f : KeyRing.class.getDeclaredFields()) {
            boolean isPrivate = Modifier.isPrivate(f.getModifiers());
            Check.due(f.getName() + " is private", isPrivate, !f.getName().equals("NONE"));
        }
        Field none = KeyRing.class.getDeclaredField("NONE");
        Check.due("NONE is public, static and final",
                none.getModifiers() == (Modifier.PUBLIC | Modifier.STATIC | Modifier.FINAL), true);
        Check.due("NONE is an int", none.getType() == int.class, true);
        Check.due("NONE", KeyRing.NONE, -1);
        Constructor<?>[] made = KeyRing.class.getDeclaredConstructors();
        Check.due("constructors", made.length, 1);
        Check.due("the constructor's parameters", made[0].getParameterCount(), 0);
        Check.due("the constructor is public", Modifier.isPublic(made[0].getModifiers()), true);
    }
}
