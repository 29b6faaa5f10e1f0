import java.io.IOException;
import java.lang.reflect.Constructor;
import java.lang.reflect.Field;
import java.lang.reflect.Method;
import java.lang.reflect.Modifier;
import java.nio.file.Files;
import java.nio.file.Path;
import java.util.Arrays;
import java.util.List;
import java.util.TreeSet;
import java.util.regex.Matcher;
import java.util.regex.Pattern;
import java.util.stream.Collectors;

/** The face of the document, and those rules of LANGUAGE.md that can be seen from outside. */
public final class FaceTest {
    private static final List<String> FACE = List.of(
        "boolean item(int, int, int, int, boolean)", "int bytes(int, int, int, long)", "boolean refer(int, int, int)",
        "int code(int, int, int, int, int)", "int clear(int)", "boolean entry(int, boolean)", "int input(int, long)",
        "int input()", "int run(int)", "int runLaid(int)", "int ran(int)", "int out(int)", "int shrink()",
        "int kept(int, int)", "int read(int, int)", "int function(int, int)", "int values(int, int, int)",
        "int octet(int)", "int shrunk(int)");

    private static final String[] FORBIDDEN = {
        "throw", "throws", "try", "catch", "finally", "synchronized", "assert", "protected", "interface", "record",
        "double", "float", "Object", "System\\.out", "System\\.exit", "Exact", "hashCode", "toString", "Random", "Thread"
    };

    private static final Check CHECK = new Check("face");

    private FaceTest() {
    }

    public static void main(String[] args) throws IOException {
        publicFace();
        for (Class<?> own : DataShrinker.class.getDeclaredClasses()) {
            nested(own);
            noClash(own);
        }
        noClash(DataShrinker.class);
        CHECK.due("classes", DataShrinker.class.getDeclaredClasses().length <= 11, true);
        source(Files.readString(Path.of("src/main/java/DataShrinker.java")));
        CHECK.end();
    }

    private static void publicFace() {
        Class<?> face = DataShrinker.class;
        CHECK.due("public final", Modifier.isPublic(face.getModifiers()) && Modifier.isFinal(face.getModifiers()), true);
        TreeSet<String> methods = new TreeSet<>();
        for (Method method : face.getDeclaredMethods()) {
            if (!Modifier.isPrivate(method.getModifiers())) {
                methods.add(told(method));
                CHECK.due("public " + told(method), Modifier.isPublic(method.getModifiers()), true);
            }
        }
        CHECK.due("methods " + methods, methods.equals(new TreeSet<>(FACE)), true);
        Constructor<?>[] constructors = face.getDeclaredConstructors();
        CHECK.due("constructors", constructors.length, 1);
        CHECK.due("constructor", Modifier.isPublic(constructors[0].getModifiers()) && constructors[0].getParameterCount() == 0, true);
        for (Field field : face.getDeclaredFields()) {
            boolean isFace = field.getName().equals("NONE") && Modifier.isPublic(field.getModifiers());
            CHECK.due("field " + field, isFace || Modifier.isPrivate(field.getModifiers()), true);
        }
        fields(face);
    }

    private static String told(Method method) {
        String types = Arrays.stream(method.getParameterTypes()).map(Class::getName).collect(Collectors.joining(", "));
        return method.getReturnType().getName() + " " + method.getName() + "(" + types + ")";
    }

    private static void nested(Class<?> own) {
        CHECK.due("static " + own, Modifier.isStatic(own.getModifiers()), true);
        CHECK.due("not public " + own, Modifier.isPublic(own.getModifiers()), false);
        CHECK.due("no class within " + own, own.getDeclaredClasses().length, 0);
        fields(own);
    }

    private static void fields(Class<?> own) {
        int count = 0;
        for (Field field : own.getDeclaredFields()) {
            boolean isStatic = Modifier.isStatic(field.getModifiers());
            CHECK.due("final " + field, !isStatic || Modifier.isFinal(field.getModifiers()), true);
            count += isStatic ? 0 : 1;
        }
        CHECK.due("fields of " + own, count <= 20, true);
    }

    private static void noClash(Class<?> own) {
        for (Method method : own.getDeclaredMethods()) {
            boolean named = FACE.stream().anyMatch(told -> told.contains(" " + method.getName() + "("));
            boolean isFace = Modifier.isPublic(method.getModifiers()) && own == DataShrinker.class;
            CHECK.due("name of " + method, named, isFace);
            CHECK.due("parameters of " + method, method.getParameterCount() <= 7, true);
        }
    }

    private static void source(String text) {
        String code = text.replaceAll("(?s)/\\*.*?\\*/", "").replaceAll("//[^\n]*", "");
        for (String word : FORBIDDEN) {
            CHECK.due("'" + word + "' in the source", Pattern.compile("\\b" + word + "\\b").matcher(code).find(), false);
        }
        CHECK.due("lambda", code.contains("->") || code.contains("::"), false);
        CHECK.due("package", code.contains("package "), false);
        Matcher imports = Pattern.compile("import ([^;]*);").matcher(code);
        while (imports.find()) {
            CHECK.due("import " + imports.group(1), imports.group(1).equals("java.util.Arrays"), true);
        }
        lengths(text.split("\n"));
    }

    /** A method begins with a line that ends in ") {" at the depth of a member, and ends with a brace as deep. */
    private static void lengths(String[] lines) {
        Pattern begin = Pattern.compile("^( {4}| {8})(?! )(?!if|for|while|switch|else|\\})\\S.*\\) \\{$");
        for (int at = 0; at < lines.length; at++) {
            Matcher found = begin.matcher(lines[at]);
            if (found.find()) {
                int end = at;
                while (end < lines.length && !lines[end].equals(found.group(1) + "}")) {
                    end++;
                }
                CHECK.due("length of line " + (at + 1) + lines[at], end - at < 60, true);
            }
        }
    }
}
