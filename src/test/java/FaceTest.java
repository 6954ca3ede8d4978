import java.lang.reflect.Field;
import java.lang.reflect.Method;
import java.lang.reflect.Modifier;
import java.util.Arrays;
import java.util.TreeSet;

/** The public face of the document, and rules 1, 5 and 11 of LANGUAGE.md as far as a class tells them. */
public final class FaceTest {

    private static final String INDEX = "java.lang.IndexOutOfBoundsException";
    private static final String STATE = "java.lang.IllegalStateException";
    private static final String ARGUMENT = "java.lang.IllegalArgumentException";
    private static final String NO_SUCH = "java.util.NoSuchElementException";

    private static final String[] METHODS = {
        "public int Tetherline.pillar(int,int) throws " + INDEX + "," + STATE,
        "public void Tetherline.base(int,int) throws " + INDEX + "," + STATE,
        "public int Tetherline.step(int) throws " + ARGUMENT + "," + STATE,
        "public int Tetherline.go(int,int) throws " + INDEX + "," + NO_SUCH,
        "public int Tetherline.back(int) throws " + ARGUMENT,
        "public int Tetherline.column()",
        "public int Tetherline.row()",
        "public int Tetherline.letters()",
        "public int Tetherline.letterAt(int) throws " + INDEX,
        "public int Tetherline.length()",
        "public int Tetherline.slack()",
        "public int Tetherline.steps()",
        "public int Tetherline.lengthByTrying(int) throws " + ARGUMENT,
        "public int Tetherline.cableAt(int) throws " + INDEX,
        "public int Tetherline.bends()",
        "public int Tetherline.least(int,int) throws " + INDEX,
        "public int Tetherline.missing(int,int) throws " + INDEX,
        "public int Tetherline.words(int,int) throws " + INDEX,
        "public int Tetherline.squares()",
    };

    public static void main(String[] args) {
        Class<?> face = Tetherline.class;
        Check.due("NONE", -1, Tetherline.NONE);
        Check.dueText("the class", "public final", Modifier.toString(face.getModifiers()));
        Check.dueText("the constructors", "[public Tetherline(int,int,int)]",
                Arrays.toString(face.getDeclaredConstructors()));
        Check.dueText("the methods", new TreeSet<>(Arrays.asList(METHODS)).toString(), openMethods(face).toString());
        Check.dueText("the constants", "[public static final int Tetherline.NONE]", openFields(face).toString());
        privateNamesAreNoPublicOnes(face);
        inside(face);
        Check.end("FaceTest");
    }

    private static TreeSet<String> openMethods(Class<?> face) {
        TreeSet<String> found = new TreeSet<>();
        for (Method method : face.getDeclaredMethods()) {
            if (!Modifier.isPrivate(method.getModifiers()) && !method.isSynthetic()) {
                found.add(method.toGenericString());
            }
        }
        return found;
    }

    private static TreeSet<String> openFields(Class<?> face) {
        TreeSet<String> found = new TreeSet<>();
        for (Field field : face.getDeclaredFields()) {
            if (!Modifier.isPrivate(field.getModifiers()) && !field.isSynthetic()) {
                found.add(field.toString());
            }
        }
        return found;
    }

    private static void privateNamesAreNoPublicOnes(Class<?> face) {
        for (Method method : face.getDeclaredMethods()) {
            boolean hidden = Modifier.isPrivate(method.getModifiers());
            boolean named = Arrays.stream(METHODS).anyMatch(m -> m.contains("." + method.getName() + "("));
            Check.due("is private and named as a public one: " + method, 0, hidden && named ? 1 : 0);
        }
    }

    private static void inside(Class<?> face) {
        Class<?>[] classes = face.getDeclaredClasses();
        Check.due("at most some twelve classes", 1, classes.length < 12 ? 1 : 0);
        for (Class<?> inner : classes) {
            Check.due("is static: " + inner, 1, Modifier.isStatic(inner.getModifiers()) ? 1 : 0);
            Check.due("is not public: " + inner, 0, Modifier.isPublic(inner.getModifiers()) ? 1 : 0);
            fieldsKeepTheRules(inner);
        }
        fieldsKeepTheRules(face);
    }

    private static void fieldsKeepTheRules(Class<?> one) {
        int own = 0;
        for (Field field : one.getDeclaredFields()) {
            if (Modifier.isStatic(field.getModifiers())) {
                Check.due("is final: " + field, 1, Modifier.isFinal(field.getModifiers()) ? 1 : 0);
            } else {
                own++;
            }
        }
        Check.due("at most some twenty fields in " + one, 1, own <= 20 ? 1 : 0);
    }
}
