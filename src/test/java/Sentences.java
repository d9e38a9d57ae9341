import java.lang.reflect.InvocationTargetException;
import java.lang.reflect.Method;
import java.util.TreeMap;

/** Runs every test of a class: each static method without parameters but main, by their names' order. */
final class Sentences {
    private Sentences() {
    }

    static void run(Class<?> tests) throws ReflectiveOperationException {
        TreeMap<String, Method> byName = new TreeMap<>();
        for (Method method : tests.getDeclaredMethods()) {
            if (method.getParameterCount() == 0 && !method.isSynthetic() && method.getReturnType() == void.class) {
                byName.put(method.getName(), method);
            }
        }
        for (Method test : byName.values()) {
            runOne(test);
        }
        System.out.println(byName.size() + " sentences");
        Check.end();
    }

    private static void runOne(Method test) throws ReflectiveOperationException {
        int wrong = Check.wrong();
        try {
            test.invoke(null);
        } catch (InvocationTargetException thrown) {
            Check.tell("threw " + thrown.getCause());
        }
        if (Check.wrong() > wrong) {
            System.out.println("^ " + test.getDeclaringClass().getName() + "." + test.getName());
        }
    }
}
