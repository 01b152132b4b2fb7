import java.lang.reflect.Constructor;
import java.lang.reflect.Field;
import java.lang.reflect.Member;
import java.lang.reflect.Method;
import java.lang.reflect.Modifier;
import java.util.Arrays;
import java.util.Set;
import java.util.TreeSet;

/** The public face: what the document lists, and no other member that is not private. */
public final class FaceTest {
    public static void main(String[] args) {
        Due due = new Due();
        due.about("the public face");
        Set<String> face = new TreeSet<>();
        for (Field field : PathQueries.class.getDeclaredFields()) {
            if (isSeen(field)) {
                face.add(Modifier.toString(field.getModifiers()) + " " + field.getType() + " " + field.getName());
            }
        }
        for (Constructor<?> maker : PathQueries.class.getDeclaredConstructors()) {
            if (isSeen(maker)) {
                face.add(Modifier.toString(maker.getModifiers()) + " new " + Arrays.toString(maker.getParameterTypes()));
            }
        }
        for (Method method : PathQueries.class.getDeclaredMethods()) {
            if (isSeen(method)) {
                face.add(Modifier.toString(method.getModifiers()) + " " + method.getReturnType() + " " + method.getName()
                        + " " + Arrays.toString(method.getParameterTypes()));
            }
        }
        Set<String> expected = new TreeSet<>(Arrays.asList(
                "public static final int REFUSED",
                "public static final int FULL",
                "public new [int]",
                "public int insert [int, int, int, int]",
                "public int remove [int]",
                "public int move [int, int, int]",
                "public int alter [int, int, int]",
                "public int parent [int]",
                "public int child [int, int]",
                "public int rank [int]",
                "public int size [int]",
                "public int value [int]",
                "public int put [int, int, int]",
                "public int compile []",
                "public int select [int]",
                "public int picked [int]",
                "public long total []"));
        if (!face.equals(expected)) {
            System.out.println("the face is " + face);
        }
        due.is("the face is the document's", face.equals(expected) ? 1 : 0, 1);
        due.is("the class is public and final", PathQueries.class.getModifiers(), Modifier.PUBLIC | Modifier.FINAL);
        due.is("nested classes", PathQueries.class.getDeclaredClasses().length, 0);
        due.is("REFUSED", PathQueries.REFUSED, -1);
        due.is("FULL", PathQueries.FULL, -2);
        due.end();
    }

    private static boolean isSeen(Member member) {
        return !Modifier.isPrivate(member.getModifiers());
    }
}
