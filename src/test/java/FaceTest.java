import java.lang.reflect.Constructor;
import java.lang.reflect.Field;
import java.lang.reflect.Method;
import java.lang.reflect.Modifier;
import java.util.Set;
import java.util.TreeSet;

/** The class shows what the document's face names and nothing else (rules 1, 2 and 5 of LANGUAGE.md). */
final class FaceTest {
    private static final String[] FACE = {
        "int add(int,int)", "int remove(int)", "int move(int,int)", "int bounds()", "int empty()",
        "long mostTop(int)", "long mostBottom(int)", "long leastTop(int)", "long leastBottom(int)",
        "int follows(int,int)", "int support(int)", "int redundant(int)", "int has(int,int,int,int)",
        "int shadow(int,int,int,int)", "int shadowGrid(int)", "int single()",
    };

    public static void main(String[] args) {
        Class<?> face = FourierMotzkin.class;
        holds("the class is public and final",
                face.getModifiers() == (Modifier.PUBLIC | Modifier.FINAL));
        holds("nothing is inherited", face.getSuperclass() == Object.class
                && face.getInterfaces().length == 0);
        holds("nothing is nested", face.getDeclaredClasses().length == 0);
        constructor(face);
        methods(face);
        fields(face);
        Checks.finish();
    }

    private static void constructor(Class<?> face) {
        Constructor<?>[] constructors = face.getDeclaredConstructors();
        holds("there is one constructor", constructors.length == 1);
        holds("it is public", constructors[0].getModifiers() == Modifier.PUBLIC);
        holds("it takes nothing", constructors[0].getParameterCount() == 0);
    }

    private static void methods(Class<?> face) {
        Set<String> seen = new TreeSet<>();
        Set<String> names = new TreeSet<>();
        for (Method method : face.getDeclaredMethods()) {
            if (method.getModifiers() == Modifier.PUBLIC) {
                seen.add(signature(method));
                names.add(method.getName());
            }
        }
        holds("the public methods are " + seen, seen.equals(Set.of(FACE)));
        for (Method method : face.getDeclaredMethods()) {
            int modifiers = method.getModifiers();
            holds(method + " is public or private",
                    modifiers == Modifier.PUBLIC || Modifier.isPrivate(modifiers));
            holds(method + " has a name of its own",
                    modifiers == Modifier.PUBLIC || !names.contains(method.getName()));
            holds(method + " takes at most seven", method.getParameterCount() <= 7);
        }
    }

    private static String signature(Method method) {
        StringBuilder text = new StringBuilder();
        for (Class<?> type : method.getParameterTypes()) {
            text.append(text.length() == 0 ? "" : ",").append(type.getName());
        }
        return method.getReturnType().getName() + " " + method.getName() + "(" + text + ")";
    }

    private static void fields(Class<?> face) {
        for (Field field : face.getDeclaredFields()) {
            Class<?> type = field.getType();
            Class<?> kind = type.isArray() ? type.getComponentType() : type;
            int modifiers = field.getModifiers();
            holds(field + " is private", Modifier.isPrivate(modifiers));
            holds(field + " is of numbers", kind.isPrimitive()
                    && kind != float.class && kind != double.class);
            holds(field + " is a constant or not static", !Modifier.isStatic(modifiers)
                    || Modifier.isFinal(modifiers) && (type == int.class || type == long.class));
        }
    }

    private static void holds(String what, boolean so) {
        Checks.due(what, so ? 1 : 0, 1);
    }
}
