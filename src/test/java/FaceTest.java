import java.lang.reflect.Constructor;
import java.lang.reflect.Field;
import java.lang.reflect.Method;
import java.lang.reflect.Modifier;
import java.util.Arrays;
import java.util.Set;
import java.util.TreeSet;

/** The class has the document's public face and no other member that can be seen. */
public final class FaceTest {
    private static final Set<String> FACE = Set.of(
            "int number(int, int)", "int pair(int, int, int, int)", "int sum(int, int)",
            "int choice(int, int, int, int)", "int spread(int, int)", "int erase(int)",
            "int copy(int, int)", "int kind(int)", "int state(int)", "int value(int)",
            "int shows(int)", "int owner(int)", "long sources(int)", "long readers(int)",
            "int inState(int)", "int depth(int)", "int total(int)");

    public static void main(String[] args) {
        Class<?> face = SpillSheet.class;
        Check.due("public and final", face.getModifiers(), Modifier.PUBLIC | Modifier.FINAL);
        Check.due("no nested class", face.getDeclaredClasses().length, 0);
        Check.due("no interface", face.getInterfaces().length, 0);
        Check.due("no other parent", face.getSuperclass() == Object.class ? 1 : 0, 1);
        constructors(face);
        methods(face);
        fields(face);
        Check.finish();
    }

    private static void constructors(Class<?> face) {
        Constructor<?>[] all = face.getDeclaredConstructors();
        Check.due("one constructor", all.length, 1);
        Check.due("it is public", all[0].getModifiers(), Modifier.PUBLIC);
        Check.due("it takes nothing", all[0].getParameterCount(), 0);
    }

    private static void methods(Class<?> face) {
        Set<String> seen = new TreeSet<>();
        Set<String> publicNames = new TreeSet<>();
        Set<String> privateNames = new TreeSet<>();
        for (Method method : face.getDeclaredMethods()) {
            if (Modifier.isPrivate(method.getModifiers())) {
                privateNames.add(method.getName());
                Check.due("few parameters: " + method, method.getParameterCount() <= 7 ? 1 : 0, 1);
            } else {
                Check.due("plainly public: " + method, method.getModifiers(), Modifier.PUBLIC);
                publicNames.add(method.getName());
                seen.add(describe(method));
            }
        }
        Check.due("the document's methods, seen " + seen, seen.equals(FACE) ? 1 : 0, 1);
        privateNames.retainAll(publicNames);
        Check.due("private methods with public names " + privateNames, privateNames.size(), 0);
    }

    private static String describe(Method method) {
        String parameters = Arrays.toString(method.getParameterTypes());
        String inner = parameters.substring(1, parameters.length() - 1);
        return method.getReturnType() + " " + method.getName() + "(" + inner + ")";
    }

    private static void fields(Class<?> face) {
        int changing = 0;
        for (Field field : face.getDeclaredFields()) {
            int modifiers = field.getModifiers();
            Check.due("private: " + field, Modifier.isPrivate(modifiers) ? 1 : 0, 1);
            if (Modifier.isStatic(modifiers)) {
                boolean constant = Modifier.isFinal(modifiers)
                        && (field.getType() == int.class || field.getType() == long.class);
                Check.due("a constant: " + field, constant ? 1 : 0, 1);
            } else {
                changing++;
                Class<?> type = field.getType();
                Class<?> plain = type.isArray() ? type.getComponentType() : type;
                boolean allowed = plain.isPrimitive() && plain != float.class && plain != double.class;
                Check.due("numbers or one array of them: " + field, allowed ? 1 : 0, 1);
            }
        }
        Check.due("few fields", changing <= 40 ? 1 : 0, 1);
    }
}
