import java.lang.reflect.Constructor;
import java.lang.reflect.Field;
import java.lang.reflect.Method;
import java.lang.reflect.Modifier;
import java.util.Arrays;
import java.util.Set;
import java.util.TreeSet;

/** The class's face is the document's and nothing more (LANGUAGE.md, rules 1, 5 and 11). */
public final class FaceTest {
    private static final String I = "IndexOutOfBoundsException";
    private static final String A = "IllegalArgumentException";
    private static final String S = "IllegalStateException";

    private static final String[] FACE = {
        "int make(int,int,boolean) " + I + " " + A + " " + S, "int snap(int,int) " + I + " " + S,
        "int drop(int) " + I, "int resize(int,int) " + I + " " + A + " " + S, "int write(int,int,int) " + I,
        "int read(int,int) " + I, "int discard(int,int,int) " + I + " " + S, "int grow(int) " + A,
        "int shrink(int) " + A, "int back(int,int) " + I + " " + S, "int quota(int,int) " + I + " " + A,
        "boolean mark(int,int)", "int marked(int) " + A, "int commit()", "int cut(int) " + A, "int hold() " + S,
        "boolean release()", "int patience(int) " + A, "int alarm(int) " + A, "int tick(int) " + A,
        "int map(int,int,int) " + A + " " + I, "int volume(int,int) " + I, "int differ(int,int,int) " + I,
        "int users(int) " + I, "int user(int,int) " + I, "int told(int) " + I,
    };

    private FaceTest() {
    }

    public static void main(String[] args) {
        Class<?> face = ThinExtents.class;
        Check.due("public final", Modifier.PUBLIC | Modifier.FINAL, face.getModifiers());
        Set<String> found = new TreeSet<>();
        Set<String> hidden = new TreeSet<>();
        for (Method method : face.getDeclaredMethods()) {
            if (Modifier.isPublic(method.getModifiers())) {
                found.add(tell(method));
            } else {
                Check.due(method + " is private", true, Modifier.isPrivate(method.getModifiers()));
                hidden.add(method.getName());
            }
        }
        Check.due("methods", new TreeSet<>(Arrays.asList(FACE)).toString(), found.toString());
        for (Method method : face.getMethods()) {
            Check.due("a private one bears the name of " + method.getName(), false, hidden.contains(method.getName()));
        }
        fields(face);
        Constructor<?>[] constructors = face.getDeclaredConstructors();
        Check.due("constructors", 1, constructors.length);
        Check.due("constructor", "public ThinExtents()", constructors[0].toString());
        for (Class<?> inside : face.getDeclaredClasses()) {
            Check.due(inside + " is static", true, Modifier.isStatic(inside.getModifiers()));
            Check.due(inside + " is not public", false, Modifier.isPublic(inside.getModifiers()));
            fieldCount(inside);
        }
        Check.end();
    }

    private static String tell(Method method) {
        StringBuilder text = new StringBuilder(method.getReturnType().getSimpleName() + " " + method.getName() + "(");
        for (Class<?> type : method.getParameterTypes()) {
            text.append(text.charAt(text.length() - 1) == '(' ? "" : ",").append(type.getSimpleName());
        }
        text.append(")");
        for (Class<?> type : method.getExceptionTypes()) {
            text.append(" ").append(type.getSimpleName());
        }
        return text.toString();
    }

    private static void fields(Class<?> face) {
        for (Field field : face.getDeclaredFields()) {
            boolean open = !Modifier.isPrivate(field.getModifiers());
            Check.due(field + " is open", field.getName().equals("NONE"), open);
        }
        fieldCount(face);
    }

    private static void fieldCount(Class<?> type) {
        int fields = 0;
        for (Field field : type.getDeclaredFields()) {
            boolean constant = Modifier.isStatic(field.getModifiers());
            Check.due(field + " is final", true, !constant || Modifier.isFinal(field.getModifiers()));
            fields += constant ? 0 : 1;
        }
        Check.due(type + " has some twenty fields at most", true, fields <= 20);
    }
}
