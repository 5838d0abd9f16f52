import java.lang.reflect.Constructor;
import java.lang.reflect.Field;
import java.lang.reflect.Method;
import java.lang.reflect.Modifier;
import java.util.Arrays;
import java.util.Set;
import java.util.TreeSet;

/** The class shows the document's face and nothing else. */
public final class FaceTest {
    private static final String[] FACE = {
        "int feed(long, long, long)", "int hills()", "int person(int, int)", "int place(int, int)",
        "int bird(int, int)", "int calls(int, int)", "int entry(int, int, int, boolean)", "int owed(int, int)",
        "int balance(int) !", "boolean call(int, int, int)", "boolean shoot(int, boolean)", "boolean undo()",
        "int stand(int, int, int, int) !", "int played(int, int, int)", "int picnic(int, int, int, int) !",
        "int netted()", "int without(int, int) !", "boolean told(int, int)", "int sang(int)",
        "int song(int, int, int)", "int wooden(int)", "int june(int)", "boolean mark(int, boolean)",
        "int count(int)",
    };

    public static void main(String[] args) {
        Class<?> face = CuckooDebt.class;
        Check.due("public final", Modifier.isPublic(face.getModifiers()) && Modifier.isFinal(face.getModifiers()), true);
        Set<String> methods = new TreeSet<>();
        for (Method method : face.getDeclaredMethods()) {
            if (!Modifier.isPrivate(method.getModifiers())) {
                methods.add(told(method));
            }
        }
        Check.due("methods", methods, new TreeSet<>(Arrays.asList(FACE)));
        for (Field field : face.getDeclaredFields()) {
            boolean isNone = field.getName().equals("NONE");
            Check.due("private " + field.getName(), Modifier.isPrivate(field.getModifiers()), !isNone);
        }
        Check.due("NONE", CuckooDebt.NONE, -1);
        Constructor<?>[] constructors = face.getDeclaredConstructors();
        Check.due("constructors", constructors.length, 1);
        Check.due("its parameters", constructors[0].getParameterCount(), 0);
        Check.due("public constructor", Modifier.isPublic(constructors[0].getModifiers()), true);
        Check.end("FaceTest");
    }

    private static String told(Method method) {
        StringBuilder text = new StringBuilder();
        if (!Modifier.isPublic(method.getModifiers()) || Modifier.isStatic(method.getModifiers())) {
            text.append("not public: ");
        }
        text.append(method.getReturnType().getName()).append(' ').append(method.getName()).append('(');
        String comma = "";
        for (Class<?> type : method.getParameterTypes()) {
            text.append(comma).append(type.getName());
            comma = ", ";
        }
        text.append(')');
        for (Class<?> type : method.getExceptionTypes()) {
            text.append(type == java.util.NoSuchElementException.class ? " !" : " ?");
        }
        return text.toString();
    }
}
