import java.lang.reflect.Field;
import java.lang.reflect.Method;
import java.lang.reflect.Modifier;
import java.util.Arrays;
import java.util.TreeSet;

/** The public face, and what LANGUAGE.md rule 1 says of all other members. */
public final class FaceTest {
    private static final String[] FACE = {
        "int type(long, int) IllegalArgumentException UnsupportedOperationException",
        "void keep(int) IllegalArgumentException",
        "int typed(int) IndexOutOfBoundsException",
        "int come(int, boolean) IllegalArgumentException IllegalStateException UnsupportedOperationException",
        "int go(int) IndexOutOfBoundsException",
        "int name(int, int) IndexOutOfBoundsException",
        "int byteAt(int, int) IndexOutOfBoundsException",
        "int kind()",
        "int child(int, int) IndexOutOfBoundsException",
        "int write(int, boolean) IllegalArgumentException",
        "int read(int) IllegalArgumentException",
        "int fault(int) IndexOutOfBoundsException",
        "int pack()",
        "int unpack()",
        "int check()",
        "int feed(int, int, int, int, int) UnsupportedOperationException",
        "void end(int) IllegalArgumentException",
        "int poke(int, int) IndexOutOfBoundsException IllegalArgumentException",
        "long at(int, int) IllegalArgumentException IndexOutOfBoundsException",
        "int count(int) IndexOutOfBoundsException",
    };

    public static void main(String[] args) {
        Due due = new Due();
        Class<?> face = ArchiveShelf.class;
        due.same("final", Modifier.isFinal(face.getModifiers()) ? 1 : 0, 1);
        due.same("constructors", face.getConstructors().length, 1);
        due.same("NONE", ArchiveShelf.NONE, -1);
        TreeSet<String> shown = new TreeSet<>();
        TreeSet<String> names = new TreeSet<>();
        for (Method method : face.getDeclaredMethods()) {
            if (Modifier.isPublic(method.getModifiers())) {
                shown.add(text(method));
                names.add(method.getName());
            }
        }
        due.same("face", shown.toString(), new TreeSet<>(Arrays.asList(FACE)).toString());
        for (Method method : face.getDeclaredMethods()) {
            boolean open = Modifier.isPublic(method.getModifiers());
            due.same(method.getName() + " private", Modifier.isPrivate(method.getModifiers()) ? 1 : 0, open ? 0 : 1);
            due.same(method.getName() + " once", !open && names.contains(method.getName()) ? 1 : 0, 0);
        }
        for (Field field : face.getDeclaredFields()) {
            boolean none = field.getName().equals("NONE");
            due.same(field.getName() + " private", Modifier.isPrivate(field.getModifiers()) ? 1 : 0, none ? 0 : 1);
            if (Modifier.isStatic(field.getModifiers())) {
                due.same(field.getName() + " final", Modifier.isFinal(field.getModifiers()) ? 1 : 0, 1);
            }
        }
        for (Class<?> inside : face.getDeclaredClasses()) {
            due.same(inside.getName() + " static", Modifier.isStatic(inside.getModifiers()) ? 1 : 0, 1);
            due.same(inside.getName() + " public", Modifier.isPublic(inside.getModifiers()) ? 1 : 0, 0);
        }
        due.close();
    }

    private static String text(Method method) {
        StringBuilder text = new StringBuilder();
        text.append(method.getReturnType().getSimpleName()).append(' ').append(method.getName()).append('(');
        String between = "";
        for (Class<?> type : method.getParameterTypes()) {
            text.append(between).append(type.getSimpleName());
            between = ", ";
        }
        text.append(')');
        for (Class<?> type : method.getExceptionTypes()) {
            text.append(' ').append(type.getSimpleName());
        }
        return text.toString();
    }
}
