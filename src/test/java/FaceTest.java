import java.lang.reflect.Constructor;
import java.lang.reflect.Field;
import java.lang.reflect.Method;
import java.lang.reflect.Modifier;
import java.util.TreeSet;

/** The face of the document and nothing beside it, and the rules of LANGUAGE.md that show in the compiled class. */
public final class FaceTest {
    private static final String[] METHODS = {
        "boolean type(long)", "int enter()", "boolean breakAfter(int)", "int restart()", "int pass(int)", "int next()",
        "int reply(int)", "int state()", "int letters()", "int letter(int)", "char text(int,int)",
        "char path(int,int,int)", "int recipient(int,int)", "int due(int,int)", "int parts(int)",
        "int part(int,int,int)"
    };

    private static final int MOST_CLASSES = 12;
    private static final int MOST_FIELDS = 20;
    private static final int MOST_PARAMETERS = 7;

    public static void main(String[] args) {
        face();
        rules();
        Desk.end();
    }

    private static void rules() {
        Desk.promise("LANGUAGE.md");
        Class<?>[] inside = SpooledPost.class.getDeclaredClasses();
        Desk.due("few classes", inside.length + 1 <= MOST_CLASSES, true);
        for (Class<?> one : inside) {
            int open = Modifier.PUBLIC | Modifier.PROTECTED;
            Desk.due(one.getName() + " is open", (one.getModifiers() & open) != 0, false);
            Desk.due(one.getName() + " is static", Modifier.isStatic(one.getModifiers()), true);
            members(one);
        }
        members(SpooledPost.class);
    }

    private static void members(Class<?> one) {
        int fields = 0;
        for (Field field : one.getDeclaredFields()) {
            boolean isStatic = Modifier.isStatic(field.getModifiers());
            fields += isStatic ? 0 : 1;
            Desk.due(field + " is static state", isStatic && !Modifier.isFinal(field.getModifiers()), false);
        }
        Desk.due("few fields of " + one.getName(), fields <= MOST_FIELDS, true);
        for (Method method : one.getDeclaredMethods()) {
            Desk.due("few parameters of " + method, method.getParameterCount() <= MOST_PARAMETERS, true);
            Desk.due("exceptions of " + method, method.getExceptionTypes().length, 0);
            if (Modifier.isPrivate(method.getModifiers())) {
                Desk.due(method + " is named as one of the face", isOfFace(method.getName()), false);
            }
        }
    }

    private static boolean isOfFace(String name) {
        for (String method : METHODS) {
            if (method.contains(" " + name + "(")) {
                return true;
            }
        }
        return false;
    }

    private static void face() {
        Desk.promise("the face");
        Desk.due("NONE", SpooledPost.NONE, -1);
        Desk.due("final", Modifier.isFinal(SpooledPost.class.getModifiers()), true);
        Desk.due("methods", openMethods().toString(), new TreeSet<>(java.util.List.of(METHODS)).toString());
        Desk.due("constructors", SpooledPost.class.getDeclaredConstructors().length, 1);
        for (Constructor<?> made : SpooledPost.class.getDeclaredConstructors()) {
            Desk.due("constructor", made.toString(), "public SpooledPost()");
        }
        for (Field field : SpooledPost.class.getDeclaredFields()) {
            boolean isOpen = !Modifier.isPrivate(field.getModifiers());
            Desk.due("open field " + field.getName(), isOpen, field.getName().equals("NONE"));
        }
    }

    private static TreeSet<String> openMethods() {
        TreeSet<String> open = new TreeSet<>();
        for (Method method : SpooledPost.class.getDeclaredMethods()) {
            if (!Modifier.isPrivate(method.getModifiers())) {
                String written = method.toString().replace("SpooledPost.", "").replace("public ", "");
                open.add(written);
            }
        }
        return open;
    }
}
