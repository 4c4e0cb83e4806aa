import java.lang.reflect.Field;
import java.lang.reflect.Method;
import java.lang.reflect.Modifier;
import java.util.Set;
import java.util.TreeSet;

/** The public face is the document's, whole and with nothing beside it (also LANGUAGE.md, rules 1, 2 and 5). */
public final class FaceTest {
    private static final Set<String> METHODS = Set.of(
            "int founder()", "int child(int,int)", "int remove()", "int persons()", "int frequency(int)",
            "int see(int,int,int)", "int seen(int,int)", "long likelihood()", "long share(int,int)",
            "long shareOfTwo(int,int,int,int)", "long copies(int)", "int possible(int)", "boolean before(int,int)");
    private static final Set<String> TYPES = Set.of(
            "int", "long", "short", "byte", "char", "boolean",
            "int[]", "long[]", "short[]", "byte[]", "char[]", "boolean[]");

    public static void main(String[] args) {
        theClass();
        theMethods();
        theFields();
        Due.end();
    }

    private static void theClass() {
        Class<?> c = PedigreePeeling.class;
        Due.due("modifiers of the class", Modifier.toString(c.getModifiers()), "public final");
        Due.due("constructors", c.getDeclaredConstructors().length, 1);
        Due.due("public constructors", c.getConstructors().length, 1);
        Due.due("parameters of the constructor", c.getDeclaredConstructors()[0].getParameterCount(), 0);
        Due.due("nested classes", c.getDeclaredClasses().length, 0);
    }

    private static void theMethods() {
        Set<String> face = new TreeSet<>();
        Set<String> faceNames = new TreeSet<>();
        for (Method m : PedigreePeeling.class.getDeclaredMethods()) {
            if (!Modifier.isPrivate(m.getModifiers())) {
                face.add(told(m));
                faceNames.add(m.getName());
                Due.due("modifiers of " + m.getName(), Modifier.toString(m.getModifiers()), "public");
            }
        }
        Due.due("methods that are not private", face.toString(), new TreeSet<>(METHODS).toString());
        for (Method m : PedigreePeeling.class.getDeclaredMethods()) {
            if (Modifier.isPrivate(m.getModifiers()) && faceNames.contains(m.getName())) {
                Due.tell("private method with a public name: " + m.getName());
            }
        }
    }

    private static String told(Method m) {
        StringBuilder types = new StringBuilder();
        for (Class<?> type : m.getParameterTypes()) {
            types.append(types.length() == 0 ? "" : ",").append(type.getTypeName());
        }
        return m.getReturnType().getTypeName() + " " + m.getName() + "(" + types + ")";
    }

    private static void theFields() {
        Due.due("BAD_ARG", PedigreePeeling.BAD_ARG, -1);
        Due.due("FULL", PedigreePeeling.FULL, -2);
        Set<String> face = new TreeSet<>();
        for (Field f : PedigreePeeling.class.getDeclaredFields()) {
            String type = f.getType().getTypeName();
            if (!Modifier.isPrivate(f.getModifiers())) {
                face.add(Modifier.toString(f.getModifiers()) + " " + type + " " + f.getName());
            }
            if (!TYPES.contains(type)) {
                Due.tell("field " + f.getName() + " has the type " + type);
            }
            if (Modifier.isStatic(f.getModifiers()) && !(Modifier.isFinal(f.getModifiers()) && !type.endsWith("[]"))) {
                Due.tell("static field " + f.getName() + " is no constant");
            }
        }
        Due.due("fields that are not private", face.toString(),
                "[public static final int BAD_ARG, public static final int FULL]");
    }
}
