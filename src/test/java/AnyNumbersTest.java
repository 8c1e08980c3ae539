import java.lang.reflect.InvocationTargetException;
import java.lang.reflect.Method;
import java.lang.reflect.Modifier;
import java.util.Arrays;

/** Every call with numbers of every size, on objects whose pad is empty, or tells an act, or has a fault: none throws. */
public final class AnyNumbersTest {
    private static final Check CHECK = new Check();
    private static final int CALLS = 500;
    private static final int[] NUMBERS = {
        Integer.MIN_VALUE, Integer.MIN_VALUE + 1, -1000, -10, -2, -1, 0, 1, 5, 8, 10, 31, 32, 33, 60, 99, 127, 1023,
        1024, 10000, Integer.MAX_VALUE};

    private SwornLane lane;
    private int calls;
    private int made;

    public static void main(String[] args) throws IllegalAccessException {
        AnyNumbersTest test = new AnyNumbersTest();
        for (Method method : SwornLane.class.getDeclaredMethods()) {
            if (Modifier.isPublic(method.getModifiers())) {
                test.callWithAll(method, new Object[method.getParameterCount()], 0);
            }
        }
        System.out.println(test.made + " objects");
        CHECK.end();
    }

    private void callWithAll(Method method, Object[] arguments, int next) throws IllegalAccessException {
        if (next == arguments.length) {
            call(method, arguments);
            return;
        }
        if (method.getParameterTypes()[next] == boolean.class) {
            for (int i = 0; i < 2; i++) {
                arguments[next] = i == 0;
                callWithAll(method, arguments, next + 1);
            }
            return;
        }
        for (int number : NUMBERS) {
            arguments[next] = number;
            callWithAll(method, arguments, next + 1);
        }
    }

    private void call(Method method, Object[] arguments) throws IllegalAccessException {
        if (lane == null || calls == CALLS) {
            lane = another();
            calls = 0;
        }
        calls++;
        boolean answered = true;
        try {
            method.invoke(lane, arguments);
        } catch (InvocationTargetException thrown) {
            answered = false;
            System.out.println(method.getName() + Arrays.toString(arguments) + " threw " + thrown.getCause());
        }
        CHECK.so(method.getName() + " answers", answered);
    }

    private SwornLane another() {
        made++;
        SwornLane one = new SwornLane();
        if (made % 3 != 0) {
            Check.say(one, made % 3 == 1 ? "wab" : "A$");
        }
        return one;
    }
}
