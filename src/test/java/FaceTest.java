import java.lang.reflect.Constructor;
import java.lang.reflect.Field;
import java.lang.reflect.Method;
import java.lang.reflect.Modifier;
import java.util.Arrays;
import java.util.List;
import java.util.TreeSet;
import java.util.stream.Collectors;

/** The public face of the document, as rule 1 of LANGUAGE.md asks for it. */
public final class FaceTest {
    private static final List<String> FACE = List.of(
        "boolean item(int, int, int, int, boolean)", "int bytes(int, int, int, long)", "boolean refer(int, int, int)",
        "int code(int, int, int, int, int)", "int clear(int)", "boolean entry(int, boolean)", "int input(int, long)",
        "int input()", "int run(int)", "int runLaid(int)", "int ran(int)", "int out(int)", "int shrink()",
        "int kept(int, int)", "int read(int, int)", "int function(int, int)", "int values(int, int, int)",
        "int octet(int)", "int shrunk(int)");

    private static final Check CHECK = new Check("face");

    private FaceTest() {
    }

    public static void main(String[] args) {
        publicFace();
        noClash(DataShrinker.class);
        for (Class<?> own : DataShrinker.class.getDeclaredClasses()) {
            CHECK.due("not public " + own, Modifier.isPublic(own.getModifiers()), false);
            CHECK.due("not protected " + own, Modifier.isProtected(own.getModifiers()), false);
            noClash(own);
        }
        CHECK.end();
    }

    private static void publicFace() {
        Class<?> face = DataShrinker.class;
        CHECK.due("public final", Modifier.isPublic(face.getModifiers()) && Modifier.isFinal(face.getModifiers()), true);
        TreeSet<String> methods = new TreeSet<>();
        for (Method method : face.getDeclaredMethods()) {
            if (!Modifier.isPrivate(method.getModifiers())) {
                methods.add(told(method));
                CHECK.due("public " + told(method), Modifier.isPublic(method.getModifiers()), true);
            }
        }
        CHECK.due("methods " + methods, methods.equals(new TreeSet<>(FACE)), true);
        Constructor<?>[] constructors = face.getDeclaredConstructors();
        CHECK.due("constructors", constructors.length, 1);
        CHECK.due("constructor", Modifier.isPublic(constructors[0].getModifiers()) && constructors[0].getParameterCount() == 0, true);
        for (Field field : face.getDeclaredFields()) {
            boolean isFace = field.getName().equals("NONE") && Modifier.isPublic(field.getModifiers());
            CHECK.due("field " + field, isFace || Modifier.isPrivate(field.getModifiers()), true);
        }
        CHECK.due("NONE", DataShrinker.NONE, -1);
    }

    private static String told(Method method) {
        String types = Arrays.stream(method.getParameterTypes()).map(Class::getName).collect(Collectors.joining(", "));
        return method.getReturnType().getName() + " " + method.getName() + "(" + types + ")";
    }

    /** Methods of the classes inside, too, bear no name of the face: the rule may be meant so. */
    private static void noClash(Class<?> own) {
        for (Method method : own.getDeclaredMethods()) {
            boolean named = FACE.stream().anyMatch(told -> told.contains(" " + method.getName() + "("));
            boolean isFace = Modifier.isPublic(method.getModifiers()) && own == DataShrinker.class;
            CHECK.due("name of " + method, named, isFace);
        }
    }
}
