import java.lang.reflect.Constructor;
import java.lang.reflect.Field;
import java.lang.reflect.Method;
import java.lang.reflect.Modifier;
import java.util.Set;
import java.util.TreeSet;

/** The public face of the document, and the rules of LANGUAGE.md that show in the compiled class. */
final class FaceTest {
    private static final Set<String> FACE = Set.of(
            "int paint(int,int)", "int shift(int,int)", "int scale(int,int)", "int shear(int,int)", "int quarter()",
            "int save()", "int restore()", "int move(int,int)", "int line(int,int)", "int close()", "int drop()",
            "int fill(int)", "int stroke(int)", "int clip(int)", "int undo()", "int pixel(int,int)", "int count(int)",
            "long row(int)", "int inside(int,int,int)", "int winding(int,int)", "int clipped(int,int)",
            "int matrix(int)", "int pathPoint(int)");

    public static void main(String[] args) {
        classItself();
        methods();
        fields();
        Due.end();
    }

    private static void yes(String what, boolean holds) {
        Due.is(what, holds ? 1 : 0, 1);
    }

    private static void classItself() {
        Class<PagePainter> face = PagePainter.class;
        yes("public and final", Modifier.isPublic(face.getModifiers()) && Modifier.isFinal(face.getModifiers()));
        yes("no nested class", face.getDeclaredClasses().length == 0);
        Constructor<?>[] constructors = face.getDeclaredConstructors();
        yes("one public constructor without parameters", constructors.length == 1
                && Modifier.isPublic(constructors[0].getModifiers()) && constructors[0].getParameterCount() == 0);
    }

    private static void methods() {
        Set<String> seen = new TreeSet<>();
        Set<String> publicNames = new TreeSet<>();
        for (Method method : PagePainter.class.getDeclaredMethods()) {
            if (Modifier.isPublic(method.getModifiers())) {
                seen.add(signature(method));
                publicNames.add(method.getName());
                yes(method.getName() + " is not static", !Modifier.isStatic(method.getModifiers()));
            }
        }
        yes("the public methods are those of the document, not " + seen, seen.equals(FACE));
        for (Method method : PagePainter.class.getDeclaredMethods()) {
            if (!Modifier.isPublic(method.getModifiers())) {
                yes(method.getName() + " is private", Modifier.isPrivate(method.getModifiers()));
                yes(method.getName() + " is no public name", !publicNames.contains(method.getName()));
            }
            yes(method.getName() + " has at most seven parameters", method.getParameterCount() <= 7);
        }
    }

    private static String signature(Method method) {
        StringBuilder parameters = new StringBuilder();
        for (Class<?> type : method.getParameterTypes()) {
            parameters.append(parameters.length() == 0 ? "" : ",").append(type.getSimpleName());
        }
        return method.getReturnType().getSimpleName() + " " + method.getName() + "(" + parameters + ")";
    }

    private static void fields() {
        int beside = 0;
        for (Field field : PagePainter.class.getDeclaredFields()) {
            Class<?> type = field.getType();
            yes(field.getName() + " is private", Modifier.isPrivate(field.getModifiers()));
            if (Modifier.isStatic(field.getModifiers())) {
                yes(field.getName() + " is a constant number", Modifier.isFinal(field.getModifiers())
                        && (type == int.class || type == long.class));
            } else {
                beside++;
                Class<?> held = type.isArray() ? type.getComponentType() : type;
                yes(field.getName() + " is of whole numbers", held.isPrimitive()
                        && held != float.class && held != double.class);
            }
        }
        yes("at most some forty fields", beside <= 40);
    }
}
