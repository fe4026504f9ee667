import java.lang.reflect.Constructor;
import java.lang.reflect.Field;
import java.lang.reflect.Method;
import java.lang.reflect.Modifier;
import java.util.TreeSet;

/** The face of the document and nothing beside it. */
public final class FaceTest {
    private static final String[] METHODS = {
        "boolean type(long)", "int enter()", "boolean breakAfter(int)", "int restart()", "int pass(int)", "int next()",
        "int reply(int)", "int state()", "int letters()", "int letter(int)", "char text(int,int)",
        "char path(int,int,int)", "int recipient(int,int)", "int due(int,int)", "int parts(int)",
        "int part(int,int,int)"
    };

    public static void main(String[] args) {
        Desk.promise("the face");
        Desk.due("NONE", SpooledPost.NONE, -1);
        Desk.due("final", Modifier.isFinal(SpooledPost.class.getModifiers()), true);
        Desk.due("methods", openMethods().toString(), new TreeSet<>(java.util.List.of(METHODS)).toString());
        Desk.due("constructors", SpooledPost.class.getDeclaredConstructors().length, 1);
        for (Constructor<?> made : SpooledPost.class.getDeclaredConstructors()) {
            Desk.due("constructor", made.toString(), "public SpooledPost()");
        }
        for (Field field : SpooledPost.class.getDeclaredFields()) {
            boolean isOpen = !Modifier.isPrivate(field.getModifiers());
            Desk.due("open field " + field.getName(), isOpen, field.getName().equals("NONE"));
            boolean isStaticState = Modifier.isStatic(field.getModifiers()) && !Modifier.isFinal(field.getModifiers());
            Desk.due("static state " + field.getName(), isStaticState, false);
        }
        Desk.end();
    }

    private static TreeSet<String> openMethods() {
        TreeSet<String> open = new TreeSet<>();
        for (Method method : SpooledPost.class.getDeclaredMethods()) {
            if (!Modifier.isPrivate(method.getModifiers())) {
                String written = method.toString().replace("SpooledPost.", "").replace("public ", "");
                open.add(written);
            }
        }
        return open;
    }
}
