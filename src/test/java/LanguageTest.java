import com.sun.source.tree.BinaryTree;
import com.sun.source.tree.BlockTree;
import com.sun.source.tree.ClassTree;
import com.sun.source.tree.CompilationUnitTree;
import com.sun.source.tree.ForLoopTree;
import com.sun.source.tree.LiteralTree;
import com.sun.source.tree.MethodInvocationTree;
import com.sun.source.tree.MethodTree;
import com.sun.source.tree.NewArrayTree;
import com.sun.source.tree.NewClassTree;
import com.sun.source.tree.Tree;
import com.sun.source.tree.Tree.Kind;
import com.sun.source.tree.VariableTree;
import com.sun.source.util.JavacTask;
import com.sun.source.util.SourcePositions;
import com.sun.source.util.TreePath;
import com.sun.source.util.TreePathScanner;
import com.sun.source.util.Trees;
import java.nio.file.Path;
import java.util.ArrayList;
import java.util.HashMap;
import java.util.LinkedHashSet;
import java.util.List;
import java.util.Map;
import java.util.Set;
import javax.lang.model.element.Element;
import javax.lang.model.element.ElementKind;
import javax.lang.model.element.Modifier;
import javax.lang.model.element.VariableElement;
import javax.lang.model.type.TypeMirror;
import javax.tools.JavaCompiler;
import javax.tools.StandardJavaFileManager;
import javax.tools.ToolProvider;

/**
 * The rules of LANGUAGE.md that can be seen in the source, by their numbers. It is stricter than
 * they are: what the class has no use for so far (texts, lists, while, enums) is refused here too.
 */
public final class LanguageTest {
    private static final String SOURCE = "src/main/java/SharedRides.java";
    private static final Set<String> LIBRARY = Set.of("Math.abs", "System.arraycopy");
    private static final Set<Kind> STATEMENTS_NOT_ALLOWED = Set.of(Kind.THROW, Kind.TRY, Kind.SYNCHRONIZED, Kind.ASSERT,
        Kind.LAMBDA_EXPRESSION, Kind.MEMBER_REFERENCE, Kind.IMPORT, Kind.PACKAGE, Kind.WHILE_LOOP, Kind.DO_WHILE_LOOP,
        Kind.INSTANCE_OF, Kind.TYPE_CAST, Kind.DIVIDE_ASSIGNMENT, Kind.REMAINDER_ASSIGNMENT);
    private static final int MOST_LINES = 60, MOST_PARAMETERS = 7, MOST_CLASSES = 12, MOST_FIELDS = 20, MOST_DEEP = 8;

    private static int wrong = 0;

    private final CompilationUnitTree unit;
    private final Trees trees;
    private final SourcePositions positions;
    /** What each method and constructor calls. */
    private final Map<Element, Set<Element>> calls = new HashMap<>();
    private int classes = 0;

    private LanguageTest(CompilationUnitTree unit, Trees trees) {
        this.unit = unit;
        this.trees = trees;
        this.positions = trees.getSourcePositions();
    }

    public static void main(String[] args) throws Exception {
        JavaCompiler compiler = ToolProvider.getSystemJavaCompiler();
        try (StandardJavaFileManager files = compiler.getStandardFileManager(null, null, null)) {
            JavacTask task = (JavacTask) compiler.getTask(null, files, null, List.of("-proc:none"), null,
                files.getJavaFileObjects(Path.of(SOURCE)));
            CompilationUnitTree unit = task.parse().iterator().next();
            task.analyze();
            new LanguageTest(unit, Trees.instance(task)).look();
        }
        System.out.println(wrong == 0 ? "the source keeps to the language" : wrong + " faults");
        if (wrong != 0) System.exit(1);
    }

    private static void fault(int rule, String text) {
        wrong++;
        System.out.println("rule " + rule + ": " + text);
    }

    private String at(Tree tree) {
        return "line " + unit.getLineMap().getLineNumber(positions.getStartPosition(unit, tree));
    }

    private void look() {
        if (unit.getTypeDecls().size() != 1) fault(1, "the file has more than one class");
        new Look().scan(unit, null);
        if (classes > MOST_CLASSES) fault(11, "the file has " + classes + " classes");
        for (Element method : calls.keySet()) deepest(method, new ArrayList<>());
    }

    /** How deep the calls of a method go, with itself; a call of one that is still open is a recursion. */
    private int deepest(Element method, List<Element> open) {
        if (open.contains(method)) {
            fault(8, "recursion: " + open + " " + method);
            return 0;
        }
        open.add(method);
        int below = 0;
        for (Element called : calls.getOrDefault(method, Set.of())) below = Math.max(below, deepest(called, open));
        if (open.size() > MOST_DEEP) fault(11, "calls go " + open.size() + " deep: " + open);
        open.remove(open.size() - 1);
        return below + 1;
    }

    private final class Look extends TreePathScanner<Void, Void> {
        @Override
        public Void scan(Tree tree, Void nothing) {
            if (tree != null && STATEMENTS_NOT_ALLOWED.contains(tree.getKind())) {
                fault(tree.getKind() == Kind.LAMBDA_EXPRESSION ? 2 : 6, tree.getKind() + " in " + at(tree));
            }
            return super.scan(tree, nothing);
        }

        @Override
        public Void visitClass(ClassTree tree, Void nothing) {
            classes++;
            Element element = trees.getElement(getCurrentPath());
            boolean outer = element.getEnclosingElement().getKind() == ElementKind.PACKAGE;
            if (element.getKind() != ElementKind.CLASS) fault(2, tree.getSimpleName() + " is no plain class");
            if (!outer && !element.getModifiers().contains(Modifier.STATIC)) fault(2, tree.getSimpleName() + " isn't static");
            int fields = 0;
            for (Tree member : tree.getMembers()) {
                if (member instanceof BlockTree) fault(5, "an initialiser block in " + at(member));
                if (member instanceof VariableTree field) {
                    Set<Modifier> modifiers = field.getModifiers().getFlags();
                    if (!modifiers.contains(Modifier.STATIC)) fields++;
                    else if (!modifiers.contains(Modifier.FINAL)) fault(5, field.getName() + " is static, not final");
                }
            }
            if (fields > MOST_FIELDS) fault(11, tree.getSimpleName() + " has " + fields + " fields");
            return super.visitClass(tree, nothing);
        }

        @Override
        public Void visitVariable(VariableTree tree, Void nothing) {
            TypeMirror type = trees.getTypeMirror(getCurrentPath());
            if (tree.getType() != null && !isAllowed(type)) fault(3, type + " " + tree.getName() + " in " + at(tree));
            return super.visitVariable(tree, nothing);
        }

        /** Numbers, booleans, classes of the file, and arrays of these. */
        private boolean isAllowed(TypeMirror type) {
            String name = type.toString();
            while (name.endsWith("[]")) name = name.substring(0, name.length() - 2);
            return Set.of("int", "boolean").contains(name) || name.startsWith("SharedRides.");
        }

        @Override
        public Void visitMethod(MethodTree tree, Void nothing) {
            Element method = trees.getElement(getCurrentPath());
            calls.putIfAbsent(method, new LinkedHashSet<>());
            Element owner = method.getEnclosingElement();
            boolean outer = owner.getEnclosingElement().getKind() == ElementKind.PACKAGE;
            if (!outer && isPublicName(tree.getName().toString())) {
                fault(1, owner + " has a method with the public name " + tree.getName());
            }
            long first = unit.getLineMap().getLineNumber(positions.getStartPosition(unit, tree));
            long last = unit.getLineMap().getLineNumber(positions.getEndPosition(unit, tree));
            if (last - first >= MOST_LINES) fault(11, method + " has " + (last - first + 1) + " lines");
            if (tree.getParameters().size() > MOST_PARAMETERS) fault(11, method + " has too many parameters");
            return super.visitMethod(tree, nothing);
        }

        private boolean isPublicName(String name) {
            Element outer = trees.getElement(new TreePath(new TreePath(unit), unit.getTypeDecls().get(0)));
            for (Element member : outer.getEnclosedElements()) {
                if (member.getKind() == ElementKind.METHOD && member.getModifiers().contains(Modifier.PUBLIC)
                    && member.getSimpleName().contentEquals(name)) return true;
            }
            return false;
        }

        @Override
        public Void visitMethodInvocation(MethodInvocationTree tree, Void nothing) {
            Element called = trees.getElement(new TreePath(getCurrentPath(), tree.getMethodSelect()));
            String owner = called.getEnclosingElement().toString();
            String name = called.getEnclosingElement().getSimpleName() + "." + called.getSimpleName();
            if (owner.startsWith("java.") && called.getKind() != ElementKind.CONSTRUCTOR && !LIBRARY.contains(name)) {
                fault(4, name + " in " + at(tree));
            }
            note(called);
            return super.visitMethodInvocation(tree, nothing);
        }

        /** A call of Object's constructor, which the compiler puts in, is none that the source makes. */
        private void note(Element called) {
            Element caller = method();
            boolean hidden = called.getEnclosingElement().toString().equals("java.lang.Object");
            if (caller != null && !hidden) calls.computeIfAbsent(caller, k -> new LinkedHashSet<>()).add(called);
        }

        /** The method that is being looked at, or null in a field's initialiser. */
        private Element method() {
            for (Tree tree : getCurrentPath()) {
                if (tree instanceof MethodTree) {
                    return trees.getElement(TreePath.getPath(unit, tree));
                }
            }
            return null;
        }

        @Override
        public Void visitNewClass(NewClassTree tree, Void nothing) {
            if (tree.getClassBody() != null) fault(2, "an anonymous class in " + at(tree));
            inConstructorOnly(tree);
            note(trees.getElement(getCurrentPath()));
            return super.visitNewClass(tree, nothing);
        }

        @Override
        public Void visitNewArray(NewArrayTree tree, Void nothing) {
            if (tree.getDimensions().size() > 2) fault(3, "an array of three dimensions in " + at(tree));
            inConstructorOnly(tree);
            return super.visitNewArray(tree, nothing);
        }

        /** The room of a run is bounded because no call makes anything. */
        private void inConstructorOnly(Tree tree) {
            Element method = method();
            if (method != null && method.getKind() != ElementKind.CONSTRUCTOR) fault(12, "something is made in " + at(tree));
        }

        /** What is divided by is a constant other than 0, or a number in the text. */
        @Override
        public Void visitBinary(BinaryTree tree, Void nothing) {
            if (tree.getKind() == Kind.DIVIDE || tree.getKind() == Kind.REMAINDER) {
                Tree divisor = tree.getRightOperand();
                Element named = trees.getElement(new TreePath(getCurrentPath(), divisor));
                Object value = divisor instanceof LiteralTree literal ? literal.getValue()
                    : named instanceof VariableElement constant ? constant.getConstantValue() : null;
                if (value == null || value.equals(0)) fault(7, "a divisor that may be 0 in " + at(tree));
            }
            return super.visitBinary(tree, nothing);
        }

        @Override
        public Void visitForLoop(ForLoopTree tree, Void nothing) {
            if (tree.getCondition() == null || tree.getUpdate().size() != 1) fault(9, "no end to be seen in " + at(tree));
            return super.visitForLoop(tree, nothing);
        }
    }
}
