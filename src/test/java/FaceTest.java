import java.lang.reflect.Constructor;
import java.lang.reflect.Field;
import java.lang.reflect.Method;
import java.lang.reflect.Modifier;
import java.util.Set;
import java.util.TreeSet;

/** The public face: its constants, constructor and methods, and no other member that can be seen. */
public final class FaceTest {
    private static final String METHODS = "[boolean isUnder(int, int), boolean subsumes(int, int), boolean unifiable(int, int), "
            + "int arc(int, int, int), int back(), int classOf(int), int classes(), int keep(), int mark(), int marks(), "
            + "int meet(int, int), int node(int), int nodes(), int reach(int), int typeOf(int), int under(int, int), "
            + "int unify(int, int), int value(int, int), void clear()]";

    public static void main(String[] args) {
        constants();
        members();
        Due.end();
    }

    private static void constants() {
        Due.is("BAD_ARG", FeatureUnifier.BAD_ARG, -1);
        Due.is("FULL", FeatureUnifier.FULL, -2);
        Due.is("CLASH", FeatureUnifier.CLASH, -3);
        Due.is("NONE", FeatureUnifier.NONE, -4);
    }

    private static void members() {
        Class<?> face = FeatureUnifier.class;
        Due.is("class is public and final", face.getModifiers(), Modifier.PUBLIC | Modifier.FINAL);
        Due.is("number of nested classes", face.getDeclaredClasses().length, 0);
        Set<String> methods = new TreeSet<>();
        for (Method method : face.getDeclaredMethods()) {
            if (!Modifier.isPrivate(method.getModifiers())) {
                Due.is(method + " is just public", method.getModifiers(), Modifier.PUBLIC);
                methods.add(signature(method));
            }
        }
        Due.same("methods", methods.toString(), METHODS);
        Set<String> fields = new TreeSet<>();
        for (Field field : face.getDeclaredFields()) {
            if (!Modifier.isPrivate(field.getModifiers())) {
                Due.is(field + " is a constant", field.getModifiers(), Modifier.PUBLIC | Modifier.STATIC | Modifier.FINAL);
                fields.add(field.getType() + " " + field.getName());
            }
        }
        Due.same("fields", fields.toString(), "[int BAD_ARG, int CLASH, int FULL, int NONE]");
        Constructor<?>[] constructors = face.getDeclaredConstructors();
        Due.is("number of constructors", constructors.length, 1);
        Due.same("constructor", constructors[0].toString(), "public FeatureUnifier()");
    }

    private static String signature(Method method) {
        StringBuilder text = new StringBuilder(method.getReturnType() + " " + method.getName() + "(");
        String between = "";
        for (Class<?> type : method.getParameterTypes()) {
            text.append(between).append(type);
            between = ", ";
        }
        return text.append(")").toString();
    }
}
