import java.lang.reflect.Constructor;
import java.lang.reflect.Field;
import java.lang.reflect.Method;
import java.lang.reflect.Modifier;
import java.util.Arrays;
import java.util.HashSet;
import java.util.Set;
import java.util.TreeSet;

/** The public face is the document's and no more; the rules of LANGUAGE.md that reflection can see. */
public final class FaceTest {
    private static final Check CHECK = new Check();
    private static final String[] METHODS = {
        "int way(int,int,boolean)", "int thing(int,int)", "int person(int,int,int)", "int pole(boolean)",
        "int say(int)", "int wipe()", "int fault()", "int judge(int)", "int behind(int,int)", "int lies(int,int)",
        "int there(int)", "int first(int)", "int done()", "int join(int,int)", "int cut(int,int,int)",
        "int rule(int,int,int)", "int unrule()", "int close(int)", "int least(int,int)",
        "int swore(int,int,int,boolean)", "int forget()", "int liars(int)", "int ask(int)", "int walk(int,int)",
        "long hang(int,int,int,int)", "int year(int,int,int)", "int image(int)", "int restore(int)", "int told(int)"};
    private static final String[] CONSTANTS = {
        "UNKNOWN", "OUTSIDE", "STATE", "FULL", "NO", "NONE", "GONE"};

    public static void main(String[] args) {
        constants();
        methods();
        constructors();
        classesInside();
        CHECK.end();
    }

    private static void constants() {
        CHECK.due("UNKNOWN", SwornLane.UNKNOWN, -1);
        CHECK.due("OUTSIDE", SwornLane.OUTSIDE, -2);
        CHECK.due("STATE", SwornLane.STATE, -3);
        CHECK.due("FULL", SwornLane.FULL, -4);
        CHECK.due("NO", SwornLane.NO, -5);
        CHECK.due("NONE", SwornLane.NONE, -6);
        CHECK.due("GONE", SwornLane.GONE, -1000000000000000000L);
        Set<String> seen = new TreeSet<>();
        for (Field field : SwornLane.class.getDeclaredFields()) {
            if (Modifier.isPublic(field.getModifiers())) {
                seen.add(field.getName());
                CHECK.so(field.getName() + " is a constant",
                    Modifier.isStatic(field.getModifiers()) && Modifier.isFinal(field.getModifiers()));
                Class<?> type = field.getName().equals("GONE") ? long.class : int.class;
                CHECK.so(field.getName() + " has its type", field.getType() == type);
            } else {
                CHECK.so(field.getName() + " is private", Modifier.isPrivate(field.getModifiers()));
            }
        }
        CHECK.so("just these constants " + seen, seen.equals(new TreeSet<>(Arrays.asList(CONSTANTS))));
    }

    private static void methods() {
        Set<String> seen = new TreeSet<>();
        Set<String> publicNames = new HashSet<>();
        for (Method method : SwornLane.class.getDeclaredMethods()) {
            if (Modifier.isPublic(method.getModifiers())) {
                publicNames.add(method.getName());
                seen.add(signature(method));
            }
        }
        CHECK.so("just these methods " + seen, seen.equals(new TreeSet<>(Arrays.asList(METHODS))));
        for (Method method : SwornLane.class.getDeclaredMethods()) {
            if (!Modifier.isPublic(method.getModifiers())) {
                CHECK.so(method + " is private", Modifier.isPrivate(method.getModifiers()));
                CHECK.so(method + " has a name of its own", !publicNames.contains(method.getName()));
            }
        }
        for (Class<?> inside : SwornLane.class.getDeclaredClasses()) {
            for (Method method : inside.getDeclaredMethods()) {
                CHECK.so(method + " has a name of its own", !publicNames.contains(method.getName()));
            }
        }
    }

    private static String signature(Method method) {
        StringBuilder text = new StringBuilder();
        text.append(method.getReturnType().getName()).append(' ').append(method.getName()).append('(');
        for (Class<?> type : method.getParameterTypes()) {
            text.append(text.charAt(text.length() - 1) == '(' ? "" : ",").append(type.getName());
        }
        return text.append(')').toString();
    }

    private static void constructors() {
        Constructor<?>[] all = SwornLane.class.getDeclaredConstructors();
        CHECK.due("constructors", all.length, 1);
        CHECK.so("it is public", Modifier.isPublic(all[0].getModifiers()));
        CHECK.due("it takes nothing", all[0].getParameterCount(), 0);
        CHECK.so("the class is public and final",
            Modifier.isPublic(SwornLane.class.getModifiers()) && Modifier.isFinal(SwornLane.class.getModifiers()));
    }

    private static void classesInside() {
        Class<?>[] inside = SwornLane.class.getDeclaredClasses();
        CHECK.so("some twelve classes at most", inside.length <= 11);
        few(SwornLane.class);
        for (Class<?> one : inside) {
            CHECK.so(one + " is static", Modifier.isStatic(one.getModifiers()));
            CHECK.so(one + " is not public or protected",
                !Modifier.isPublic(one.getModifiers()) && !Modifier.isProtected(one.getModifiers()));
            few(one);
        }
    }

    private static void few(Class<?> one) {
        int fields = 0;
        for (Field field : one.getDeclaredFields()) {
            fields += Modifier.isStatic(field.getModifiers()) ? 0 : 1;
            CHECK.so(field + " is final if static",
                !Modifier.isStatic(field.getModifiers()) || Modifier.isFinal(field.getModifiers()));
        }
        CHECK.so(one + " has some twenty fields at most", fields <= 20);
        for (Method method : one.getDeclaredMethods()) {
            CHECK.so(method + " takes seven at most", method.getParameterCount() <= 7);
        }
    }
}
