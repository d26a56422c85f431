import java.lang.reflect.Constructor;
import java.lang.reflect.Field;
import java.lang.reflect.Method;
import java.lang.reflect.Modifier;
import java.util.Arrays;
import java.util.Map;
import java.util.TreeMap;

/** The class has the face of the document, and nothing else that can be seen. */
final class FaceTests {
    private static final String INDEX = " IndexOutOfBoundsException";
    private static final String STATE = " IllegalStateException";

    private FaceTests() {
    }

    static void run() {
        Map<String, String> due = new TreeMap<>();
        due.put("feed", "int 5" + STATE);
        due.put("trim", "int 1 IllegalArgumentException");
        due.put("compile", "int 0");
        due.put("errorAt", "int 0");
        due.put("count", "int 1" + INDEX);
        due.put("fun", "int 2" + INDEX);
        due.put("call", "long 4" + INDEX + STATE);
        due.put("callChanged", "long 5" + INDEX + STATE);
        due.put("inputOf", "int 3" + INDEX);
        due.put("propose", "int 1" + INDEX);
        due.put("table", "int 2" + INDEX);
        due.put("caseOf", "int 3" + INDEX);
        due.put("holds", "boolean 2" + INDEX);
        due.put("taken", "int 2" + INDEX);
        due.put("finds", "boolean 2" + INDEX);
        due.put("score", "double 1" + INDEX);
        due.put("grow", "int 1" + INDEX + STATE);
        due.put("shorten", "int 1" + INDEX);
        due.put("digest", "long 0");
        Check.same("public methods", due, FaceTests::publicMethods);
        Check.same("the class is public and final", true, () -> Modifier.isPublic(CaseTables.class.getModifiers())
                && Modifier.isFinal(CaseTables.class.getModifiers()));
        Check.same("one public constructor without arguments", true, FaceTests::hasOneConstructor);
        Check.same("all else is private", true, FaceTests::hidesTheRest);
    }

    private static Map<String, String> publicMethods() {
        Map<String, String> methods = new TreeMap<>();
        for (Method method : CaseTables.class.getDeclaredMethods()) {
            if (Modifier.isPublic(method.getModifiers())) {
                StringBuilder told = new StringBuilder(method.getReturnType() + " " + method.getParameterCount());
                for (Class<?> thrown : method.getExceptionTypes()) {
                    told.append(" ").append(thrown.getSimpleName());
                }
                methods.put(method.getName(), told.toString());
            }
        }
        return methods;
    }

    private static boolean hasOneConstructor() {
        Constructor<?>[] all = CaseTables.class.getDeclaredConstructors();
        return all.length == 1 && Modifier.isPublic(all[0].getModifiers()) && all[0].getParameterCount() == 0;
    }

    private static boolean hidesTheRest() {
        boolean isHidden = true;
        for (Field field : CaseTables.class.getDeclaredFields()) {
            isHidden &= Modifier.isPrivate(field.getModifiers());
        }
        for (Method method : CaseTables.class.getDeclaredMethods()) {
            isHidden &= Modifier.isPrivate(method.getModifiers()) != Modifier.isPublic(method.getModifiers());
        }
        return isHidden && Arrays.stream(CaseTables.class.getDeclaredClasses())
                .allMatch(inner -> Modifier.isStatic(inner.getModifiers()) && !Modifier.isPublic(inner.getModifiers()));
    }
}
