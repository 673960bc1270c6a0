import java.lang.reflect.Constructor;
import java.lang.reflect.Field;
import java.lang.reflect.Method;
import java.lang.reflect.Modifier;
import java.util.Set;
import java.util.TreeSet;

/** The public face: just the members of the document, and nothing else that can be seen from outside. */
public final class FaceTest {
    private static final Set<String> METHODS = Set.of(
        "int type(long,int)", "int erase()", "int read(int,int)", "int write(int)", "int at(int)",
        "int size(int,int)", "int part(int,int,int)", "int told(int,int)", "int number(int,int)",
        "int same(int,int)", "int list(boolean)", "int resolve(int,int,int,int,int)",
        "int range(int,int,int,int,int,int)", "int clear()", "int pass(int)");
    private static final Set<String> FIELDS = Set.of(
        "NONE=-1", "BAD=-2", "FULL=-3", "NO_SCHEME=-11", "STRANGE=-12", "NO_HOST=-13", "WRONG=-14",
        "FOUR=-15", "SIX=-16", "PORT=-17");

    public static void main(String[] args) throws IllegalAccessException {
        Check check = new Check();
        Set<String> methods = new TreeSet<>();
        Set<String> hidden = new TreeSet<>();
        for (Method method : UrlGate.class.getDeclaredMethods()) {
            if (Modifier.isPrivate(method.getModifiers())) {
                hidden.add(method.getName());
            } else {
                methods.add(shown(method));
            }
        }
        Set<String> fields = new TreeSet<>();
        for (Field field : UrlGate.class.getDeclaredFields()) {
            if (!Modifier.isPrivate(field.getModifiers())) {
                fields.add(field.getName() + "=" + field.getInt(null));
            }
        }
        check.due("methods", methods.toString(), new TreeSet<>(METHODS).toString());
        check.due("constants", fields.toString(), new TreeSet<>(FIELDS).toString());
        for (String method : METHODS) {
            String name = method.substring(4, method.indexOf('('));
            check.due("private " + name, hidden.contains(name) ? 1 : 0, 0);
        }
        Constructor<?>[] constructors = UrlGate.class.getDeclaredConstructors();
        check.due("constructors", constructors.length, 1);
        check.due("constructor's parameters", constructors[0].getParameterCount(), 0);
        check.due("public final", UrlGate.class.getModifiers(), Modifier.PUBLIC | Modifier.FINAL);
        check.finish();
    }

    private static String shown(Method method) {
        StringBuilder out = new StringBuilder();
        out.append(method.getReturnType()).append(' ').append(method.getName()).append('(');
        String comma = "";
        for (Class<?> type : method.getParameterTypes()) {
            out.append(comma).append(type);
            comma = ",";
        }
        return out.append(')').toString();
    }
}
