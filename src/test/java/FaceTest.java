import java.lang.reflect.Constructor;
import java.lang.reflect.Field;
import java.lang.reflect.Method;
import java.lang.reflect.Modifier;
import java.util.Set;
import java.util.TreeSet;

/** The face: what the document lists, and nothing else that is seen from outside. */
final class FaceTest {
    private static final String[] METHODS = {
        "int append(int,int,int,int,int)", "int load(int)", "int errorOffset()", "int defined()",
        "int coefficient(int,int,int)", "int remainder(int,int)", "int bound(int,int)", "int value(int,int,int,int)",
        "int degree(int)", "boolean covers(int,int)", "int reason(int,int,int)", "int add(int,int,int)",
        "int subtract(int,int,int)", "int multiply(int,int,int)", "int compose(int,int,int,int)",
        "int integrate(int,int,int)", "int step(int,int)", "int sweep(int,int)", "int wrap(int,int)",
        "int setCoefficient(int,int,int,int)", "int setRemainder(int,int,int)", "boolean clear(int)", "int undo()",
        "long checksum()"
    };

    public static void main(String[] args) throws ReflectiveOperationException {
        Check.due("the class is final", true, Modifier.isFinal(TaylorModels.class.getModifiers()));
        constants();
        methods();
        constructors();
        Check.finish("FaceTest");
    }

    private static void constants() throws ReflectiveOperationException {
        String[] names = {"SYNTAX_ERROR", "OUT_OF_RANGE", "UNDEFINED", "REFUSED", "TOO_DEEP"};
        for (int k = 0; k < names.length; k++) {
            Check.due(names[k], -2 - k, TaylorModels.class.getField(names[k]).getInt(null));
        }
        int open = 0;
        for (Field field : TaylorModels.class.getDeclaredFields()) {
            open += Modifier.isPrivate(field.getModifiers()) ? 0 : 1;
            boolean changing = Modifier.isStatic(field.getModifiers()) && !Modifier.isFinal(field.getModifiers());
            Check.due("static and not final: " + field.getName(), false, changing);
        }
        Check.due("number of fields that are not private", 5, open);
    }

    private static void methods() {
        Set<String> want = new TreeSet<>(Set.of(METHODS));
        Set<String> got = new TreeSet<>();
        Set<String> names = new TreeSet<>();
        for (Method method : TaylorModels.class.getDeclaredMethods()) {
            if (!Modifier.isPrivate(method.getModifiers())) {
                got.add(signature(method));
                names.add(method.getName());
            }
        }
        Check.due("the methods that are not private", want.toString(), got.toString());
        for (Class<?> inner : TaylorModels.class.getDeclaredClasses()) {
            Check.due(inner + " is static", true, Modifier.isStatic(inner.getModifiers()));
            Check.due(inner + " is public", false, Modifier.isPublic(inner.getModifiers()));
            for (Method method : inner.getDeclaredMethods()) {
                Check.due(method + " has a name of the face", false, names.contains(method.getName()));
            }
        }
    }

    private static String signature(Method method) {
        StringBuilder text = new StringBuilder(method.getReturnType().getName());
        text.append(' ').append(method.getName()).append('(');
        String comma = "";
        for (Class<?> type : method.getParameterTypes()) {
            text.append(comma).append(type.getName());
            comma = ",";
        }
        return text.append(')').toString();
    }

    private static void constructors() {
        Constructor<?>[] all = TaylorModels.class.getDeclaredConstructors();
        Check.due("number of constructors", 1, all.length);
        Check.due("its parameters", 0, all[0].getParameterCount());
        Check.due("it is public", true, Modifier.isPublic(all[0].getModifiers()));
    }
}
