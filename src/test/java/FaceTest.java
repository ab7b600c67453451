import java.lang.reflect.Constructor;
import java.lang.reflect.Field;
import java.lang.reflect.Method;
import java.lang.reflect.Modifier;
import java.util.ArrayList;
import java.util.Arrays;
import java.util.List;

/** The class shows the document's face and no other member, as LANGUAGE.md's rule 1 asks. */
public final class FaceTest {
    private static final List<String> FACE = List.of(
        "public static final int DRAWN",
        "public EndTables(int, int)",
        "public int size(boolean)",
        "public int distance(int, int, int, int, int) IllegalArgumentException",
        "public int count(int, int, int) IllegalArgumentException",
        "public int find(int, int, int, int) IllegalArgumentException IndexOutOfBoundsException",
        "public int longest(int) IllegalArgumentException",
        "public boolean set(int, int, int, int, int)",
        "public int about(int) IllegalStateException IndexOutOfBoundsException",
        "public int left() IllegalStateException",
        "public int moves() IllegalStateException",
        "public int move(int) IllegalStateException IndexOutOfBoundsException",
        "public int best() IllegalStateException",
        "public int play(int) IllegalStateException IllegalArgumentException",
        "public int run(int) IllegalStateException IllegalArgumentException");

    private FaceTest() {
    }

    public static void main(String[] args) {
        Class<?> face = EndTables.class;
        List<String> open = new ArrayList<>();
        List<String> publicNames = new ArrayList<>();
        for (Field f : face.getDeclaredFields()) {
            if (!Modifier.isPrivate(f.getModifiers()) && !f.isSynthetic()) {
                open.add(Modifier.toString(f.getModifiers()) + " " + f.getType() + " " + f.getName());
            }
        }
        for (Constructor<?> c : face.getDeclaredConstructors()) {
            if (!Modifier.isPrivate(c.getModifiers())) {
                open.add(Modifier.toString(c.getModifiers()) + " EndTables" + list(c.getParameterTypes())
                    + exceptions(c.getExceptionTypes()));
            }
        }
        for (Method m : face.getDeclaredMethods()) {
            if (!Modifier.isPrivate(m.getModifiers()) && !m.isSynthetic()) {
                publicNames.add(m.getName());
                open.add(Modifier.toString(m.getModifiers()) + " " + m.getReturnType() + " " + m.getName()
                    + list(m.getParameterTypes()) + exceptions(m.getExceptionTypes()));
            }
        }
        for (String due : FACE) {
            Check.yes("the face has " + due, open.contains(due));
        }
        for (String shown : open) {
            Check.yes("the document has " + shown, FACE.contains(shown));
        }
        Check.yes("public and final", face.getModifiers() == (Modifier.PUBLIC | Modifier.FINAL));
        inside(face, publicNames);
        Check.end("FaceTest");
    }

    private static void inside(Class<?> face, List<String> publicNames) {
        for (Class<?> c : face.getDeclaredClasses()) {
            int m = c.getModifiers();
            Check.yes(c + " is static and not public", Modifier.isStatic(m) && !Modifier.isPublic(m));
            privateNames(c, publicNames);
            Check.yes(c + " has some twenty fields at most", c.getDeclaredFields().length <= 20);
        }
        privateNames(face, publicNames);
        Check.yes("some twelve classes at most", face.getDeclaredClasses().length < 12);
    }

    private static void privateNames(Class<?> c, List<String> publicNames) {
        for (Method m : c.getDeclaredMethods()) {
            boolean own = Modifier.isPrivate(m.getModifiers()) || c != EndTables.class;
            Check.yes("own name of " + m, !own || !publicNames.contains(m.getName()));
            Check.yes("seven parameters at most: " + m, m.getParameterCount() <= 7);
        }
    }

    private static String list(Class<?>[] types) {
        return Arrays.stream(types).map(Class::getName).toList().toString().replace('[', '(').replace(']', ')');
    }

    private static String exceptions(Class<?>[] types) {
        StringBuilder names = new StringBuilder();
        for (Class<?> type : types) {
            names.append(' ').append(type.getSimpleName());
        }
        return names.toString();
    }
}
