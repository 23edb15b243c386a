import java.lang.reflect.Constructor;
import java.lang.reflect.Field;
import java.lang.reflect.Method;
import java.lang.reflect.Modifier;
import java.util.Arrays;
import java.util.TreeSet;

/** The public face is the document's, member by member, and no other member can be seen from outside. */
public final class FaceTest {
    private static final String FACE = """
        int open(int, int) IndexOutOfBoundsException IllegalArgumentException IllegalStateException
        int close(int) IndexOutOfBoundsException IllegalStateException
        int state(int) IndexOutOfBoundsException
        int version()
        int upgrade()
        void makeStore(int, int) IndexOutOfBoundsException IllegalStateException
        int deleteStore(int, int) IndexOutOfBoundsException IllegalStateException
        void makeIndex(int, int, int, boolean) IndexOutOfBoundsException IllegalStateException
        int begin(int, int, boolean) IndexOutOfBoundsException IllegalArgumentException IllegalStateException
        int standing(int) IndexOutOfBoundsException
        int commit(int) IndexOutOfBoundsException IllegalStateException
        int abort(int) IndexOutOfBoundsException IllegalStateException
        boolean put(int, int, int, int, int, int) IndexOutOfBoundsException IllegalArgumentException IllegalStateException
        int remove(int, int, int, int) IndexOutOfBoundsException IllegalArgumentException IllegalStateException
        int get(int, int, int) IndexOutOfBoundsException IllegalArgumentException IllegalStateException
        int count(int, int, int, int) IndexOutOfBoundsException IllegalArgumentException IllegalStateException
        int cursor(int, int, int, int) IndexOutOfBoundsException IllegalArgumentException IllegalStateException
        int step(int) IndexOutOfBoundsException IllegalStateException
        int update(int, int) IndexOutOfBoundsException IllegalArgumentException IllegalStateException
        """;

    public static void main(String[] args) {
        TreeSet<String> due = new TreeSet<>(Arrays.asList(FACE.split("\n")));
        TreeSet<String> got = new TreeSet<>();
        boolean isRight = TabStore.class.getModifiers() == (Modifier.PUBLIC | Modifier.FINAL);
        for (Method method : TabStore.class.getDeclaredMethods()) {
            if (!Modifier.isPrivate(method.getModifiers())) {
                got.add(describe(method));
                isRight &= method.getModifiers() == Modifier.PUBLIC;
            }
        }
        for (Field field : TabStore.class.getDeclaredFields()) {
            isRight &= Modifier.isPrivate(field.getModifiers());
        }
        Constructor<?>[] constructors = TabStore.class.getDeclaredConstructors();
        isRight &= constructors.length == 1 && constructors[0].getModifiers() == Modifier.PUBLIC
                && constructors[0].getParameterCount() == 0;
        if (!isRight || !got.equals(due)) {
            System.out.println("the face is " + got + ", due is " + due);
            System.exit(1);
        }
    }

    private static String describe(Method method) {
        StringBuilder text = new StringBuilder();
        text.append(method.getReturnType().getSimpleName()).append(' ').append(method.getName()).append('(');
        String[] parameters = Arrays.stream(method.getParameterTypes()).map(Class::getSimpleName).toArray(String[]::new);
        text.append(String.join(", ", parameters)).append(')');
        for (Class<?> thrown : method.getExceptionTypes()) {
            text.append(' ').append(thrown.getSimpleName());
        }
        return text.toString();
    }
}
