import java.lang.reflect.Constructor;
import java.lang.reflect.Field;
import java.lang.reflect.Method;
import java.lang.reflect.Modifier;
import java.util.Set;
import java.util.TreeSet;

/** The face: what the document lists, and nothing else that is seen from outside. */
final class FaceTest {
    /** Each with the exceptions that it declares, in their order and without the word at their end. */
    private static final String[] METHODS = {
        "int append(int,int,int,int,int)",
        "int load(int) throws IllegalArgument",
        "int errorOffset()",
        "int defined()",
        "int coefficient(int,int,int) throws IndexOutOfBounds NoSuchElement IllegalArgument",
        "int remainder(int,int) throws IndexOutOfBounds NoSuchElement IllegalArgument",
        "int bound(int,int) throws IndexOutOfBounds NoSuchElement IllegalArgument",
        "int value(int,int,int,int) throws IndexOutOfBounds NoSuchElement IllegalArgument",
        "int degree(int) throws IndexOutOfBounds NoSuchElement",
        "boolean covers(int,int) throws IndexOutOfBounds NoSuchElement",
        "int reason(int,int,int) throws IndexOutOfBounds NoSuchElement",
        "int add(int,int,int) throws IndexOutOfBounds NoSuchElement IllegalState",
        "int subtract(int,int,int) throws IndexOutOfBounds NoSuchElement IllegalState",
        "int multiply(int,int,int) throws IndexOutOfBounds NoSuchElement IllegalState",
        "int compose(int,int,int,int) throws IndexOutOfBounds NoSuchElement IllegalState",
        "int integrate(int,int,int) throws IndexOutOfBounds NoSuchElement IllegalArgument IllegalState",
        "int step(int,int) throws NoSuchElement IllegalArgument",
        "int sweep(int,int) throws IndexOutOfBounds NoSuchElement IllegalArgument IllegalState",
        "int wrap(int,int) throws IndexOutOfBounds NoSuchElement IllegalArgument IllegalState",
        "int setCoefficient(int,int,int,int) throws IndexOutOfBounds NoSuchElement IllegalArgument",
        "int setRemainder(int,int,int) throws IndexOutOfBounds NoSuchElement IllegalArgument",
        "boolean clear(int) throws IndexOutOfBounds",
        "int undo()",
        "long checksum()"
    };

    public static void main(String[] args) throws ReflectiveOperationException {
        Check.due("the class is final", true, Modifier.isFinal(TaylorModels.class.getModifiers()));
        constants();
        methods();
        constructors();
        Check.finish("FaceTest");
    }

    private static void constants() throws ReflectiveOperationException {
        String[] names = {"SYNTAX_ERROR", "OUT_OF_RANGE", "UNDEFINED", "REFUSED", "TOO_DEEP"};
        for (int k = 0; k < names.length; k++) {
            Check.due(names[k], -2 - k, TaylorModels.class.getField(names[k]).getInt(null));
        }
        int open = 0;
        for (Field field : TaylorModels.class.getDeclaredFields()) {
            open += Modifier.isPrivate(field.getModifiers()) ? 0 : 1;
            boolean changing = Modifier.isStatic(field.getModifiers()) && !Modifier.isFinal(field.getModifiers());
            Check.due("static and not final: " + field.getName(), false, changing);
        }
        Check.due("number of fields that are not private", 5, open);
    }

    private static void methods() {
        Set<String> want = new TreeSet<>(Set.of(METHODS));
        Set<String> got = new TreeSet<>();
        Set<String> names = new TreeSet<>();
        for (Method method : TaylorModels.class.getDeclaredMethods()) {
            if (!Modifier.isPrivate(method.getModifiers())) {
                got.add(signature(method));
                names.add(method.getName());
            }
        }
        Check.due("the methods that are not private", want.toString(), got.toString());
        for (Class<?> inner : TaylorModels.class.getDeclaredClasses()) {
            Check.due(inner + " is static", true, Modifier.isStatic(inner.getModifiers()));
            Check.due(inner + " is public", false, Modifier.isPublic(inner.getModifiers()));
            for (Method method : inner.getDeclaredMethods()) {
                Check.due(method + " has a name of the face", false, names.contains(method.getName()));
            }
        }
    }

    private static String signature(Method method) {
        StringBuilder text = new StringBuilder(method.getReturnType().getName());
        text.append(' ').append(method.getName()).append('(');
        String comma = "";
        for (Class<?> type : method.getParameterTypes()) {
            text.append(comma).append(type.getName());
            comma = ",";
        }
        text.append(')');
        String before = " throws ";
        for (Class<?> type : method.getExceptionTypes()) {
            text.append(before).append(type.getSimpleName().replace("Exception", ""));
            before = " ";
        }
        return text.toString();
    }

    private static void constructors() {
        Constructor<?>[] all = TaylorModels.class.getDeclaredConstructors();
        Check.due("number of constructors", 1, all.length);
        Check.due("its parameters", 0, all[0].getParameterCount());
        Check.due("it is public", true, Modifier.isPublic(all[0].getModifiers()));
    }
}
