import java.lang.reflect.Constructor;
import java.lang.reflect.Field;
import java.lang.reflect.Method;
import java.lang.reflect.Modifier;
import java.util.Arrays;
import java.util.Set;
import java.util.TreeSet;

/** The public face: the constants, the constructor and the methods of the document, and nothing else. */
public final class FaceTest {
    public static void main(String[] args) throws IllegalAccessException {
        Due due = new Due();
        Set<String> face = new TreeSet<>();
        for (Field field : ViewRewriter.class.getDeclaredFields()) {
            if (!Modifier.isPrivate(field.getModifiers())) {
                face.add(Modifier.toString(field.getModifiers()) + " " + field.getName() + "=" + field.getInt(null));
            }
        }
        for (Method method : ViewRewriter.class.getDeclaredMethods()) {
            if (!Modifier.isPrivate(method.getModifiers())) {
                face.add(Modifier.toString(method.getModifiers()) + " " + method.getReturnType() + " "
                        + method.getName() + Arrays.toString(method.getParameterTypes()));
            }
        }
        for (Constructor<?> constructor : ViewRewriter.class.getDeclaredConstructors()) {
            face.add(Modifier.toString(constructor.getModifiers()) + " new"
                    + Arrays.toString(constructor.getParameterTypes()));
        }
        Set<String> want = new TreeSet<>(Arrays.asList(
                "public static final BAD=-1", "public static final FULL=-2",
                "public static final NO=0", "public static final YES=1",
                "public static final QUERY=0", "public static final CANDIDATE=1",
                "public static final ROWS=2", "public static final VIEWS=3",
                "public static final QUERY_ATOMS=4", "public static final CANDIDATE_ATOMS=4",
                "public static final VIEW_ATOMS=3", "public static final QUERY_VARIABLES=5",
                "public static final CANDIDATE_VARIABLES=5", "public static final VIEW_VARIABLES=4",
                "public new[int, int, int, int]",
                "public int put[int, int, int, int]", "public int drop[int, int, int, int]",
                "public int has[int, int, int, int]", "public int size[int]", "public int clear[int]",
                "public int head[int, int]", "public int headAt[int]",
                "public int certain[int, int, int]", "public int rewritable[int]",
                "public int candidateHas[int, int]", "public int sound[]", "public int complete[]",
                "public int coreSize[]"));
        due.holds("the face " + face, face.equals(want));
        due.holds("the class is public and final",
                ViewRewriter.class.getModifiers() == (Modifier.PUBLIC | Modifier.FINAL));
        due.finish();
    }
}
