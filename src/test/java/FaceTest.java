import java.lang.reflect.Constructor;
import java.lang.reflect.Field;
import java.lang.reflect.Method;
import java.lang.reflect.Modifier;
import java.util.HashSet;
import java.util.Set;
import java.util.TreeSet;

/** The public face of the document, and what reflection can see of LANGUAGE.md. */
public final class FaceTest {
    private static final Class<?> CLASS = RoaringCodec.class;
    private static final Set<Class<?>> NUMBER_TYPES = Set.of(
        int.class, long.class, short.class, byte.class, char.class, boolean.class);

    public static void main(String[] args) {
        methods();
        constructors();
        fields();
        Check.due("a public and final class", CLASS.getModifiers(), Modifier.PUBLIC | Modifier.FINAL);
        Check.due("nested classes", CLASS.getDeclaredClasses().length, 0);
        Check.end();
    }

    private static void methods() {
        Set<String> want = new TreeSet<>();
        for (String name : "size runs write read".split(" ")) {
            want.add(name + " 1");
        }
        for (String name : "add remove shift has rank select next previous gap common within same".split(" ")) {
            want.add(name + " 2");
        }
        for (String name : "fill clear flip sow join".split(" ")) {
            want.add(name + " 3");
        }
        Set<String> got = new TreeSet<>();
        Set<String> publicNames = new HashSet<>();
        Set<String> privateNames = new HashSet<>();
        for (Method method : CLASS.getDeclaredMethods()) {
            Check.due(method + " has few parameters", method.getParameterCount() <= 7, true);
            if (Modifier.isPrivate(method.getModifiers())) {
                privateNames.add(method.getName());
            } else {
                Check.due("modifiers of " + method, method.getModifiers(), Modifier.PUBLIC);
                Check.due("answer of " + method, method.getReturnType(), int.class);
                for (Class<?> type : method.getParameterTypes()) {
                    Check.due("parameter of " + method, type, int.class);
                }
                publicNames.add(method.getName());
                got.add(method.getName() + " " + method.getParameterCount());
            }
        }
        Check.due("the public methods", got, want);
        privateNames.retainAll(publicNames);
        Check.due("private methods with a public name", privateNames, Set.of());
    }

    private static void constructors() {
        Constructor<?>[] all = CLASS.getDeclaredConstructors();
        Check.due("constructors", all.length, 1);
        Check.due("parameters of the constructor", all[0].getParameterCount(), 0);
        Check.due("modifiers of the constructor", all[0].getModifiers(), Modifier.PUBLIC);
    }

    private static void fields() {
        int kept = 0;
        for (Field field : CLASS.getDeclaredFields()) {
            int modifiers = field.getModifiers();
            Class<?> type = field.getType();
            Check.due(field + " is private", Modifier.isPrivate(modifiers), true);
            if (Modifier.isStatic(modifiers)) {
                Check.due(field + " is a constant", Modifier.isFinal(modifiers), true);
                Check.due(field + " is a number", type == int.class || type == long.class, true);
            } else {
                kept++;
                Class<?> base = type.isArray() ? type.getComponentType() : type;
                Check.due(field + " is of an allowed type", NUMBER_TYPES.contains(base), true);
            }
        }
        Check.due("at most forty fields", kept <= 40, true);
    }
}
