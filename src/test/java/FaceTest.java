import java.lang.reflect.Constructor;
import java.lang.reflect.Field;
import java.lang.reflect.Method;
import java.lang.reflect.Modifier;
import java.util.Arrays;
import java.util.Set;
import java.util.TreeSet;

/** The public face: the constants, the constructor and the methods of the document, and nothing else. */
public final class FaceTest {
    private static final Due DUE = new Due();

    public static void main(String[] args) throws IllegalAccessException {
        constants();
        nothingElse();
        DUE.finish();
    }

    private static void constants() {
        DUE.says("Answers: BAD = -1, FULL = -2, NO = 0, YES = 1.");
        DUE.is("BAD", ViewRewriter.BAD, -1);
        DUE.is("FULL", ViewRewriter.FULL, -2);
        DUE.is("NO", ViewRewriter.NO, 0);
        DUE.is("YES", ViewRewriter.YES, 1);
        DUE.says("Section numbers: QUERY = 0, CANDIDATE = 1, ROWS = 2, VIEWS = 3.");
        DUE.is("QUERY", ViewRewriter.QUERY, 0);
        DUE.is("CANDIDATE", ViewRewriter.CANDIDATE, 1);
        DUE.is("ROWS", ViewRewriter.ROWS, 2);
        DUE.is("VIEWS", ViewRewriter.VIEWS, 3);
        DUE.says("Greatest numbers of atoms: QUERY_ATOMS = 4, CANDIDATE_ATOMS = 4, VIEW_ATOMS = 3.");
        DUE.is("QUERY_ATOMS", ViewRewriter.QUERY_ATOMS, 4);
        DUE.is("CANDIDATE_ATOMS", ViewRewriter.CANDIDATE_ATOMS, 4);
        DUE.is("VIEW_ATOMS", ViewRewriter.VIEW_ATOMS, 3);
        DUE.says("Numbers of variables: QUERY_VARIABLES = 5, CANDIDATE_VARIABLES = 5, VIEW_VARIABLES = 4.");
        DUE.is("QUERY_VARIABLES", ViewRewriter.QUERY_VARIABLES, 5);
        DUE.is("CANDIDATE_VARIABLES", ViewRewriter.CANDIDATE_VARIABLES, 5);
        DUE.is("VIEW_VARIABLES", ViewRewriter.VIEW_VARIABLES, 4);
    }

    private static void nothingElse() throws IllegalAccessException {
        DUE.says("public final class ViewRewriter {");
        DUE.is("modifiers of the class", ViewRewriter.class.getModifiers(), Modifier.PUBLIC | Modifier.FINAL);
        Set<String> want = new TreeSet<>(Arrays.asList(
                "public static final int BAD=-1", "public static final int FULL=-2",
                "public static final int NO=0", "public static final int YES=1",
                "public static final int QUERY=0", "public static final int CANDIDATE=1",
                "public static final int ROWS=2", "public static final int VIEWS=3",
                "public static final int QUERY_ATOMS=4", "public static final int CANDIDATE_ATOMS=4",
                "public static final int VIEW_ATOMS=3", "public static final int QUERY_VARIABLES=5",
                "public static final int CANDIDATE_VARIABLES=5", "public static final int VIEW_VARIABLES=4",
                "public new[int, int, int, int]",
                "public int put[int, int, int, int]", "public int drop[int, int, int, int]",
                "public int has[int, int, int, int]", "public int size[int]", "public int clear[int]",
                "public int head[int, int]", "public int headAt[int]",
                "public int certain[int, int, int]", "public int rewritable[int]",
                "public int candidateHas[int, int]", "public int sound[]", "public int complete[]",
                "public int coreSize[]"));
        Set<String> face = face();
        for (String member : want) {
            DUE.holds(member + " is there", face.contains(member));
        }
        for (String member : face) {
            DUE.holds(member + " is of the document", want.contains(member));
        }
    }

    /** All that can be seen from outside the class, each written down as a line. */
    private static Set<String> face() throws IllegalAccessException {
        Set<String> face = new TreeSet<>();
        for (Field field : ViewRewriter.class.getDeclaredFields()) {
            if (!Modifier.isPrivate(field.getModifiers())) {
                face.add(Modifier.toString(field.getModifiers()) + " " + field.getType() + " " + field.getName() + "="
                        + field.getInt(null));
            }
        }
        for (Method method : ViewRewriter.class.getDeclaredMethods()) {
            if (!Modifier.isPrivate(method.getModifiers())) {
                face.add(Modifier.toString(method.getModifiers()) + " " + method.getReturnType() + " "
                        + method.getName() + Arrays.toString(method.getParameterTypes()));
            }
        }
        for (Constructor<?> constructor : ViewRewriter.class.getDeclaredConstructors()) {
            face.add(Modifier.toString(constructor.getModifiers()) + " new"
                    + Arrays.toString(constructor.getParameterTypes()));
        }
        return face;
    }
}
