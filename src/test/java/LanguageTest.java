import com.sun.source.tree.ClassTree;
import com.sun.source.tree.CompilationUnitTree;
import com.sun.source.tree.ForLoopTree;
import com.sun.source.tree.ImportTree;
import com.sun.source.tree.MethodInvocationTree;
import com.sun.source.tree.MethodTree;
import com.sun.source.tree.NewArrayTree;
import com.sun.source.tree.NewClassTree;
import com.sun.source.tree.Tree;
import com.sun.source.tree.TypeCastTree;
import com.sun.source.tree.VariableTree;
import com.sun.source.util.JavacTask;
import com.sun.source.util.TreePath;
import com.sun.source.util.TreePathScanner;
import com.sun.source.util.Trees;
import java.io.IOException;
import java.nio.file.Path;
import java.util.EnumSet;
import java.util.HashSet;
import java.util.List;
import java.util.Map;
import java.util.Set;
import java.util.TreeMap;
import java.util.TreeSet;
import javax.lang.model.element.Element;
import javax.lang.model.element.ElementKind;
import javax.lang.model.element.ExecutableElement;
import javax.lang.model.element.Modifier;
import javax.lang.model.type.TypeKind;
import javax.lang.model.type.TypeMirror;
import javax.tools.JavaCompiler;
import javax.tools.StandardJavaFileManager;
import javax.tools.ToolProvider;

/**
 * The rules of LANGUAGE.md, looked up in the class as the compiler itself reads it. It asks for less than the rules
 * leave room for: for just what the class needs of them.
 */
public final class LanguageTest {
    private static final Path SOURCE = Path.of("src/main/java/DataShrinker.java");
    private static final int DEEPEST = 8;
    private static final int LONGEST = 60;
    private static final int MOST_CLASSES = 12;
    private static final int MOST_FIELDS = 20;
    private static final int MOST_PARAMETERS = 7;

    private static final Set<String> LIBRARY = Set.of(
        "System.arraycopy", "Arrays.fill", "Math.floorMod", "Math.max", "Math.min",
        "Long.bitCount", "Long.numberOfTrailingZeros");

    private static final Set<Tree.Kind> FORBIDDEN = EnumSet.of(
        Tree.Kind.THROW, Tree.Kind.TRY, Tree.Kind.CATCH, Tree.Kind.SYNCHRONIZED, Tree.Kind.ASSERT,
        Tree.Kind.LAMBDA_EXPRESSION, Tree.Kind.MEMBER_REFERENCE, Tree.Kind.SWITCH_EXPRESSION, Tree.Kind.ANNOTATION,
        Tree.Kind.DOUBLE_LITERAL, Tree.Kind.FLOAT_LITERAL, Tree.Kind.STRING_LITERAL, Tree.Kind.NULL_LITERAL,
        Tree.Kind.INSTANCE_OF, Tree.Kind.INTERFACE, Tree.Kind.ENUM, Tree.Kind.RECORD, Tree.Kind.PACKAGE,
        Tree.Kind.WHILE_LOOP, Tree.Kind.DO_WHILE_LOOP);

    private static final Check CHECK = new Check("language");

    private LanguageTest() {
    }

    public static void main(String[] args) throws IOException {
        JavaCompiler compiler = ToolProvider.getSystemJavaCompiler();
        try (StandardJavaFileManager files = compiler.getStandardFileManager(null, null, null)) {
            JavacTask task = (JavacTask) compiler.getTask(
                null, files, null, List.of("-proc:none"), null, files.getJavaFileObjects(SOURCE));
            Reader reader = new Reader(Trees.instance(task));
            Iterable<? extends CompilationUnitTree> units = task.parse();
            task.analyze();
            for (CompilationUnitTree unit : units) {
                reader.scan(unit, null);
            }
            dueOfAll(reader);
        }
        CHECK.end();
    }

    private static void dueOfAll(Reader reader) {
        CHECK.due("rule 11, classes", reader.classes <= MOST_CLASSES, true);
        CHECK.due("methods are found", reader.calls.size() > 100, true);
        for (String method : reader.calls.keySet()) {
            int depth = depth(reader.calls, method, new HashSet<>());
            CHECK.due("rule 11, calls from " + method + " go eight deep at most", depth <= DEEPEST, true);
        }
    }

    /** A method that comes back to itself counts as far too deep: nothing in the class needs recursion. */
    private static int depth(Map<String, Set<String>> calls, String method, Set<String> open) {
        if (!open.add(method)) {
            return DEEPEST + 1;
        }
        int deepest = 0;
        for (String called : calls.getOrDefault(method, Set.of())) {
            deepest = Math.max(deepest, depth(calls, called, open));
        }
        open.remove(method);
        return deepest + 1;
    }

    /** Goes through all trees of the file, looks at each, and notes which method calls which. */
    private static final class Reader extends TreePathScanner<Void, Void> {
        final Map<String, Set<String>> calls = new TreeMap<>();
        int classes;
        private final Trees trees;
        /** Empty outside of all methods: there stand the rows that a constructor makes. */
        private String method = "";
        private boolean isConstructor;

        Reader(Trees trees) {
            this.trees = trees;
        }

        @Override
        public Void scan(Tree tree, Void nothing) {
            if (tree != null) {
                String what = "rules 2 to 10, " + tree.getKind() + " in " + method;
                CHECK.due(what, FORBIDDEN.contains(tree.getKind()), false);
            }
            return super.scan(tree, nothing);
        }

        @Override
        public Void visitImport(ImportTree tree, Void nothing) {
            String name = tree.getQualifiedIdentifier().toString();
            CHECK.due("rule 4, import " + name, name.equals("java.util.Arrays"), true);
            return super.visitImport(tree, nothing);
        }

        @Override
        public Void visitClass(ClassTree tree, Void nothing) {
            Element own = trees.getElement(getCurrentPath());
            ElementKind around = own.getEnclosingElement().getKind();
            boolean isStatic = around == ElementKind.CLASS && own.getModifiers().contains(Modifier.STATIC);
            CHECK.due("rule 2, static class " + own, isStatic || around == ElementKind.PACKAGE, true);
            long fields = own.getEnclosedElements().stream()
                .filter(member -> member.getKind() == ElementKind.FIELD)
                .filter(member -> !member.getModifiers().contains(Modifier.STATIC)).count();
            CHECK.due("rule 11, fields of " + own, fields <= MOST_FIELDS, true);
            boolean hasBlock = tree.getMembers().stream().anyMatch(member -> member.getKind() == Tree.Kind.BLOCK);
            CHECK.due("rule 5, initialiser block of " + own, hasBlock, false);
            classes++;
            return super.visitClass(tree, nothing);
        }

        @Override
        public Void visitMethod(MethodTree tree, Void nothing) {
            ExecutableElement own = (ExecutableElement) trees.getElement(getCurrentPath());
            method = nameOf(own);
            isConstructor = own.getKind() == ElementKind.CONSTRUCTOR;
            calls.computeIfAbsent(method, name -> new TreeSet<>());
            CHECK.due("rule 11, parameters of " + method, own.getParameters().size() <= MOST_PARAMETERS, true);
            CHECK.due("rule 11, lines of " + method, lines(tree) <= LONGEST, true);
            super.visitMethod(tree, nothing);
            method = "";
            return null;
        }

        private long lines(Tree tree) {
            CompilationUnitTree unit = getCurrentPath().getCompilationUnit();
            long begin = trees.getSourcePositions().getStartPosition(unit, tree);
            long end = trees.getSourcePositions().getEndPosition(unit, tree);
            return end < 0 ? 0 : unit.getLineMap().getLineNumber(end) - unit.getLineMap().getLineNumber(begin) + 1;
        }

        @Override
        public Void visitMethodInvocation(MethodInvocationTree tree, Void nothing) {
            TreePath chosen = new TreePath(getCurrentPath(), tree.getMethodSelect());
            ExecutableElement called = (ExecutableElement) trees.getElement(chosen);
            String name = nameOf(called);
            calls.computeIfAbsent(method, caller -> new TreeSet<>()).add(name);
            boolean mayBe = isOwn(called) || LIBRARY.contains(name) || name.equals("Object.<init>");
            CHECK.due("rule 4, " + name + " in " + method, mayBe, true);
            if (name.equals("Arrays.fill")) {
                String type = called.getParameters().get(0).asType().toString();
                CHECK.due("rule 4, " + name + " over " + type, type.equals("int[]") || type.equals("long[]"), true);
            }
            return super.visitMethodInvocation(tree, nothing);
        }

        @Override
        public Void visitNewClass(NewClassTree tree, Void nothing) {
            CHECK.due("rule 12, an object made in " + method, isConstructor || method.isEmpty(), true);
            return super.visitNewClass(tree, nothing);
        }

        @Override
        public Void visitNewArray(NewArrayTree tree, Void nothing) {
            CHECK.due("rule 12, a row made in " + method, isConstructor || method.isEmpty(), true);
            return super.visitNewArray(tree, nothing);
        }

        @Override
        public Void visitTypeCast(TypeCastTree tree, Void nothing) {
            CHECK.due("rule 6, cast in " + method, tree.getType().getKind() == Tree.Kind.PRIMITIVE_TYPE, true);
            return super.visitTypeCast(tree, nothing);
        }

        @Override
        public Void visitForLoop(ForLoopTree tree, Void nothing) {
            boolean hasEnd = tree.getCondition() != null && tree.getUpdate().size() == 1;
            CHECK.due("rule 9, loop in " + method, hasEnd, true);
            return super.visitForLoop(tree, nothing);
        }

        @Override
        public Void visitVariable(VariableTree tree, Void nothing) {
            Element variable = trees.getElement(getCurrentPath());
            CHECK.due("rule 3, type of " + variable, isAllowed(variable.asType()), true);
            if (variable.getKind() == ElementKind.FIELD && variable.getModifiers().contains(Modifier.STATIC)) {
                CHECK.due("rule 5, final " + variable, variable.getModifiers().contains(Modifier.FINAL), true);
                boolean isNumber = variable.asType().getKind() == TypeKind.INT;
                boolean isRow = variable.asType().toString().equals("long[]");
                CHECK.due("rule 5, type of " + variable, isNumber || isRow, true);
            }
            return super.visitVariable(tree, nothing);
        }

        private static boolean isAllowed(TypeMirror type) {
            String name = type.toString().replaceFirst("\\[\\]$", "");
            return Set.of("int", "long", "boolean").contains(name) || name.startsWith("DataShrinker");
        }

        private static boolean isOwn(Element called) {
            return called.getEnclosingElement().toString().startsWith("DataShrinker");
        }

        private static String nameOf(ExecutableElement called) {
            String name = called.getEnclosingElement().getSimpleName() + "." + called.getSimpleName();
            return isOwn(called) ? name + "/" + called.getParameters().size() : name;
        }
    }
}
