import java.io.IOException;
import java.lang.reflect.Constructor;
import java.lang.reflect.Field;
import java.lang.reflect.Method;
import java.lang.reflect.Modifier;
import java.util.Set;
import java.util.TreeSet;
import java.util.regex.Matcher;
import java.util.regex.Pattern;

/** The class's face is the one that the document writes out, and nothing more (LANGUAGE.md, rules 1, 5 and 11). */
public final class FaceTest {
    private static final Pattern METHOD = Pattern.compile("public (\\w+) (\\w+)\\(([^)]*)\\)(?: throws ([^;]*))?;");
    private static final Pattern CONSTANT = Pattern.compile("public static final int (\\w+) = (-?\\d+);");
    private static final Pattern IN_A_PROMISE = Pattern.compile("^\\s*`([^`]*)`:");
    private static final int METHODS = 26;
    private static final int PROMISES = 27;

    private FaceTest() {
    }

    public static void main(String[] args) throws IOException, ReflectiveOperationException {
        Document document = Document.read();
        String written = document.textOf(document.section("The public face"));
        Check.due("written as a class", true, written.contains("public final class ThinExtents {"));
        Class<?> face = ThinExtents.class;
        Check.due("public final", Modifier.PUBLIC | Modifier.FINAL, face.getModifiers());
        Check.due("package", "", face.getPackageName());
        methods(face, written);
        constants(face, written);
        promises(document, written);
        Constructor<?>[] constructors = face.getDeclaredConstructors();
        Check.due("constructors", 1, constructors.length);
        Check.due("constructor", "public ThinExtents()", constructors[0].toString());
        Check.due("the constructor is written", true, written.contains("public ThinExtents();"));
        for (Class<?> inside : face.getDeclaredClasses()) {
            Check.due(inside + " is static", true, Modifier.isStatic(inside.getModifiers()));
            Check.due(inside + " is not public", false, Modifier.isPublic(inside.getModifiers()));
            fieldCount(inside);
        }
        Check.end();
    }

    private static void methods(Class<?> face, String written) {
        Set<String> due = new TreeSet<>();
        for (Matcher method = METHOD.matcher(written); method.find();) {
            due.add(tell(method));
        }
        Check.due("methods that the document writes out", METHODS, due.size());
        Set<String> found = new TreeSet<>();
        Set<String> open = new TreeSet<>();
        for (Method method : face.getDeclaredMethods()) {
            if (Modifier.isPublic(method.getModifiers())) {
                found.add(tell(method));
                open.add(method.getName());
            } else {
                Check.due(method + " is private", true, Modifier.isPrivate(method.getModifiers()));
            }
        }
        Check.due("methods", due.toString(), found.toString());
        hiddenNames(face, open);
        for (Class<?> inside : face.getDeclaredClasses()) {
            hiddenNames(inside, open);
        }
    }

    private static void hiddenNames(Class<?> type, Set<String> open) {
        for (Method method : type.getDeclaredMethods()) {
            boolean hidden = Modifier.isPrivate(method.getModifiers());
            Check.due(method + " has a public one's name", false, hidden && open.contains(method.getName()));
        }
    }

    /** As "int make(int,int,boolean) throws ...", as the document has it. */
    private static String tell(Matcher method) {
        String types = method.group(3).replaceAll("(\\w+) \\w+", "$1").replace(" ", "");
        String thrown = method.group(4) == null ? "" : " throws " + method.group(4);
        return method.group(1) + " " + method.group(2) + "(" + types + ")" + thrown;
    }

    private static String tell(Method method) {
        return method.getReturnType().getSimpleName() + " " + method.getName() + "("
                + names(method.getParameterTypes(), ",") + ")"
                + (method.getExceptionTypes().length > 0 ? " throws " : "") + names(method.getExceptionTypes(), ", ");
    }

    private static String names(Class<?>[] types, String between) {
        StringBuilder text = new StringBuilder();
        for (Class<?> type : types) {
            text.append(text.length() == 0 ? "" : between).append(type.getSimpleName());
        }
        return text.toString();
    }

    private static void constants(Class<?> face, String written) throws ReflectiveOperationException {
        Set<String> due = new TreeSet<>();
        for (Matcher constant = CONSTANT.matcher(written); constant.find();) {
            due.add(constant.group(1) + " = " + constant.group(2));
        }
        Check.due("constants that the document writes out", "[NONE = -1]", due.toString());
        Set<String> found = new TreeSet<>();
        for (Field field : face.getDeclaredFields()) {
            if (!Modifier.isPrivate(field.getModifiers())) {
                Check.due(field + " is an int", true, field.getType() == int.class);
                Check.due(field + " is public static final", Modifier.PUBLIC | Modifier.STATIC | Modifier.FINAL,
                        field.getModifiers());
                found.add(field.getName() + " = " + field.getInt(null));
            }
        }
        Check.due("constants", due.toString(), found.toString());
        fieldCount(face);
    }

    /** What each promise begins with is the face's. */
    private static void promises(Document document, String written) {
        int promises = 0;
        for (Document.Section section : document.sections) {
            Matcher signature = IN_A_PROMISE.matcher(document.textOf(section));
            if (section.title.startsWith("Promise ") && signature.find()) {
                Check.due(section.title, true, written.contains("public " + signature.group(1) + ";"));
                promises++;
            }
        }
        Check.due("promises", PROMISES, promises);
    }

    private static void fieldCount(Class<?> type) {
        int fields = 0;
        for (Field field : type.getDeclaredFields()) {
            boolean constant = Modifier.isStatic(field.getModifiers());
            Check.due(field + " is final", true, !constant || Modifier.isFinal(field.getModifiers()));
            fields += constant ? 0 : 1;
        }
        Check.due(type + " has some twenty fields at most", true, fields <= 20);
    }
}
