import java.lang.reflect.InvocationTargetException;
import java.lang.reflect.Method;
import java.util.ArrayList;
import java.util.Arrays;
import java.util.HashMap;
import java.util.List;
import java.util.Map;

/** Each method with rows of arguments at and beyond the edges, in each MODE: it answers, or throws, as Model does. */
public final class SweepTest {
    private static final int LEAST = Integer.MIN_VALUE;
    private static final int GREATEST = Integer.MAX_VALUE;
    /** A new pair of objects is made before an object comes to its 512th call. */
    private static final int MOST_CALLS = 450;

    private static final int[] FEW = {LEAST, -1, 0, 1, 2, 3, 4, 5, 6, 15, 16, 20, 39, 40, 41, GREATEST};
    private static final int[] MANY = {
        LEAST, LEAST + 1, -41, -2, -1, 0, 1, 2, 3, 4, 5, 6, 7, 8, 9, 11, 12, 13, 14, 15, 16, 17, 19, 20, 31, 32, 33,
        39, 40, 41, 84, 85, 88, 89, 95, 96, 97, 159, 160, 161, 1000, 1001, 10000, 10001, GREATEST - 1, GREATEST,
    };

    private static final String RICH = "back 0 70; back 18 71; back 159 72; alarm 1; mark 0 5; make 0 40 false; "
            + "make 3 5 true; quota 3 4; write 0 0 1; write 0 5 2; write 3 1 3; commit; hold; mark 5 6; snap 0 15; "
            + "write 0 0 11; write 15 156 12; commit; mark 6 7; write 15 5 13; write 3 4 14; write 3 8 15; "
            + "discard 3 1 1; write 3 4 16; tick 3; write 0 80 21; write 3 12 22; write 0 81 23; tick 2";
    private static final String[] SCENES = {
        "", "grow 4; patience 10; " + RICH, "patience 10; " + RICH, RICH, "release; make 15 40 false; commit; shrink 7",
    };

    private static final Map<String, Method> OF_CLASS = methods(ThinExtents.class);
    private static final Map<String, Method> OF_MODEL = methods(Model.class);

    private static ThinExtents object;
    private static Model model;
    private static int calls;

    private SweepTest() {
    }

    public static void main(String[] args) throws ReflectiveOperationException {
        Sentences.run(SweepTest.class);
    }

    private static Map<String, Method> methods(Class<?> type) {
        Map<String, Method> methods = new HashMap<>();
        for (Method method : type.getDeclaredMethods()) {
            methods.put(method.getName(), method);
        }
        return methods;
    }

    /** "Methods throw what their comments name, the one named first when several would do" */
    static void methodsThrowWhatTheirCommentsName() {
        int swept = 0;
        for (Method method : ThinExtents.class.getMethods()) {
            if (method.getDeclaringClass() == ThinExtents.class) {
                List<Object[]> rows = rows(method.getParameterTypes());
                for (String scene : SCENES) {
                    sweep(scene, method.getName(), rows);
                }
                swept++;
            }
        }
        Check.due("methods", 26, swept);
    }

    private static void sweep(String scene, String name, List<Object[]> rows) {
        set(scene);
        for (Object[] row : rows) {
            String what = name + Arrays.toString(row);
            String want = answer(OF_MODEL.get(name), model, row);
            String got = answer(OF_CLASS.get(name), object, row);
            Check.due("behind \"" + scene + "\" " + what, want, got);
            Check.due("the MODE behind " + what, model.told(2), object.told(2));
            Check.due("how many wait behind " + what, model.told(3), object.told(3));
            Check.due("how many FAILED behind " + what, model.told(4), object.told(4));
            calls += 4;
            if (!want.endsWith("Exception") || calls > MOST_CALLS) {
                set(scene);
            }
        }
    }

    /** An object and a model with the same calls behind them, written as in "make 0 40 false; commit". */
    private static void set(String scene) {
        object = new ThinExtents();
        model = new Model();
        calls = 0;
        for (String call : scene.isEmpty() ? new String[0] : scene.split("; ")) {
            String[] words = call.split(" ");
            Object[] row = new Object[words.length - 1];
            for (int i = 0; i < row.length; i++) {
                boolean flag = words[i + 1].equals("true") || words[i + 1].equals("false");
                row[i] = flag ? (Object) Boolean.valueOf(words[i + 1]) : (Object) Integer.valueOf(words[i + 1]);
            }
            answer(OF_CLASS.get(words[0]), object, row);
            answer(OF_MODEL.get(words[0]), model, row);
            calls++;
        }
    }

    private static String answer(Method method, Object target, Object[] row) {
        try {
            return String.valueOf(method.invoke(target, row));
        } catch (InvocationTargetException thrown) {
            return thrown.getCause().getClass().getName();
        } catch (IllegalAccessException impossible) {
            throw new IllegalStateException(impossible);
        }
    }

    private static List<Object[]> rows(Class<?>[] types) {
        List<Object[]> rows = new ArrayList<>();
        rows.add(new Object[0]);
        for (Class<?> type : types) {
            List<Object[]> longer = new ArrayList<>();
            for (Object[] row : rows) {
                for (Object value : type == boolean.class ? FLAGS : types.length < 3 ? ints(MANY) : ints(FEW)) {
                    Object[] more = Arrays.copyOf(row, row.length + 1);
                    more[row.length] = value;
                    longer.add(more);
                }
            }
            rows = longer;
        }
        return rows;
    }

    private static final Object[] FLAGS = {false, true};

    private static Object[] ints(int[] numbers) {
        return Arrays.stream(numbers).boxed().toArray();
    }
}
