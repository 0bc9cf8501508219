import com.sun.source.tree.BinaryTree;
import com.sun.source.tree.ClassTree;
import com.sun.source.tree.CompilationUnitTree;
import com.sun.source.tree.ExpressionTree;
import com.sun.source.tree.MethodInvocationTree;
import com.sun.source.tree.MethodTree;
import com.sun.source.tree.NewArrayTree;
import com.sun.source.tree.NewClassTree;
import com.sun.source.tree.Tree;
import com.sun.source.tree.VariableTree;
import com.sun.source.util.JavacTask;
import com.sun.source.util.TreePath;
import com.sun.source.util.TreePathScanner;
import com.sun.source.util.Trees;
import java.io.File;
import java.util.ArrayList;
import java.util.EnumSet;
import java.util.LinkedHashMap;
import java.util.LinkedHashSet;
import java.util.List;
import java.util.Map;
import java.util.Set;
import javax.lang.model.element.Element;
import javax.lang.model.element.ExecutableElement;
import javax.lang.model.element.Modifier;
import javax.lang.model.type.TypeKind;
import javax.lang.model.type.TypeMirror;
import javax.tools.JavaCompiler;
import javax.tools.StandardJavaFileManager;
import javax.tools.ToolProvider;

/** The rules of LANGUAGE.md that the compiler's own tree of the source can tell: words, library, types, depth, length. */
public final class SourceTest {
    private static final File SOURCE = new File("src/main/java/PaintedGods.java");
    private static final int LONGEST = 60, DEEPEST = 8, MOST_PARAMETERS = 7, MOST_FIELDS = 20, MOST_CLASSES = 12;
    private static final Set<Tree.Kind> NOT_IN_IT = EnumSet.of(Tree.Kind.THROW, Tree.Kind.TRY, Tree.Kind.CATCH,
            Tree.Kind.SYNCHRONIZED, Tree.Kind.ASSERT, Tree.Kind.LAMBDA_EXPRESSION, Tree.Kind.MEMBER_REFERENCE,
            Tree.Kind.IMPORT, Tree.Kind.PACKAGE, Tree.Kind.SWITCH_EXPRESSION, Tree.Kind.ANNOTATION,
            Tree.Kind.DOUBLE_LITERAL, Tree.Kind.FLOAT_LITERAL);
    private static final Set<String> LIBRARY = Set.of("java.lang.String.length()", "java.lang.String.charAt(int)",
            "java.lang.System.arraycopy(java.lang.Object,int,java.lang.Object,int,int)", "java.lang.Math.max(int,int)",
            "java.lang.Math.min(int,int)", "java.lang.Integer.bitCount(int)", "java.lang.Object.Object()");

    private static int wrong = 0;

    private static void need(boolean is, String what) {
        if (!is) {
            wrong++;
            System.out.println(what);
        }
    }

    private static final class Reader extends TreePathScanner<Void, Void> {
        final Map<Element, Set<Element>> calls = new LinkedHashMap<>();
        final Trees trees;
        final CompilationUnitTree unit;
        private Element method;
        private int classes;

        Reader(Trees trees, CompilationUnitTree unit) {
            this.trees = trees;
            this.unit = unit;
        }

        private long line(long at) {
            return unit.getLineMap().getLineNumber(at);
        }

        private long start(Tree tree) {
            return line(trees.getSourcePositions().getStartPosition(unit, tree));
        }

        @Override
        public Void scan(Tree tree, Void none) {
            if (tree != null) {
                need(!NOT_IN_IT.contains(tree.getKind()), "line " + start(tree) + ": " + tree.getKind());
            }
            return super.scan(tree, none);
        }

        @Override
        public Void visitClass(ClassTree tree, Void none) {
            classes++;
            need(classes <= MOST_CLASSES, "11 more than twelve classes");
            Set<Modifier> modifiers = tree.getModifiers().getFlags();
            boolean outer = getCurrentPath().getParentPath().getLeaf() == unit;
            need(outer || modifiers.contains(Modifier.STATIC), "2 " + tree.getSimpleName() + " is not static");
            need(outer || getCurrentPath().getParentPath().getLeaf() instanceof ClassTree, "2 a local class");
            int fields = 0;
            for (Tree member : tree.getMembers()) {
                if (member instanceof VariableTree) {
                    boolean isStatic = ((VariableTree) member).getModifiers().getFlags().contains(Modifier.STATIC);
                    fields += isStatic ? 0 : 1;
                    need(!isStatic || ((VariableTree) member).getModifiers().getFlags().contains(Modifier.FINAL),
                            "5 line " + start(member) + ": static and not final");
                }
                need(member.getKind() != Tree.Kind.BLOCK, "5 line " + start(member) + ": an initialiser block");
            }
            need(fields <= MOST_FIELDS, "11 " + tree.getSimpleName() + " has " + fields + " fields");
            return super.visitClass(tree, none);
        }

        @Override
        public Void visitMethod(MethodTree tree, Void none) {
            method = trees.getElement(getCurrentPath());
            calls.putIfAbsent(method, new LinkedHashSet<>());
            long end = trees.getSourcePositions().getEndPosition(unit, tree);
            if (end > 0) {
                long lines = line(end) - start(tree) + 1;
                need(lines <= LONGEST, "11 " + tree.getName() + " has " + lines + " lines");
            }
            need(tree.getParameters().size() <= MOST_PARAMETERS, "11 " + tree.getName() + " has too many parameters");
            super.visitMethod(tree, none);
            method = null;
            return null;
        }

        @Override
        public Void visitMethodInvocation(MethodInvocationTree tree, Void none) {
            called(trees.getElement(getCurrentPath()), tree);
            return super.visitMethodInvocation(tree, none);
        }

        @Override
        public Void visitNewClass(NewClassTree tree, Void none) {
            need(tree.getClassBody() == null, "2 line " + start(tree) + ": an anonymous class");
            called(trees.getElement(getCurrentPath()), tree);
            return super.visitNewClass(tree, none);
        }

        @Override
        public Void visitNewArray(NewArrayTree tree, Void none) {
            need(method == null, "12 line " + start(tree) + ": an array is made by a method");
            return super.visitNewArray(tree, none);
        }

        private void called(Element what, Tree tree) {
            String owner = what.getEnclosingElement().toString();
            if (!owner.startsWith("PaintedGods")) {
                need(LIBRARY.contains(owner + "." + what), "4 line " + start(tree) + ": " + owner + "." + what);
            } else if (method != null) {
                calls.get(method).add(what);
            }
        }

        @Override
        public Void visitBinary(BinaryTree tree, Void none) {
            for (ExpressionTree side : List.of(tree.getLeftOperand(), tree.getRightOperand())) {
                TypeMirror type = trees.getTypeMirror(new TreePath(getCurrentPath(), side));
                need(type != null && type.getKind().isPrimitive() && type.getKind() != TypeKind.DOUBLE
                        && type.getKind() != TypeKind.FLOAT, "3 line " + start(tree) + ": an operand is " + type);
            }
            return super.visitBinary(tree, none);
        }
    }

    /** How many calls stand open at most, this one too; a call that comes back to one that stands open is told. */
    private static int depth(Reader reader, Element method, List<Element> open) {
        if (open.contains(method)) {
            need(false, "8 " + method + " calls itself, by " + open);
            return 0;
        }
        open.add(method);
        int deepest = 0;
        for (Element next : reader.calls.getOrDefault(method, Set.of())) {
            deepest = Math.max(deepest, depth(reader, next, open));
        }
        open.remove(open.size() - 1);
        return deepest + 1;
    }

    public static void main(String[] args) throws Exception {
        JavaCompiler compiler = ToolProvider.getSystemJavaCompiler();
        try (StandardJavaFileManager files = compiler.getStandardFileManager(null, null, null)) {
            JavacTask task = (JavacTask) compiler.getTask(null, files, null, List.of("-proc:none"), null,
                    files.getJavaFileObjects(SOURCE));
            CompilationUnitTree unit = task.parse().iterator().next();
            task.analyze();
            Reader reader = new Reader(Trees.instance(task), unit);
            reader.scan(unit, null);
            int deepest = 0;
            for (Element method : reader.calls.keySet()) {
                boolean open = method instanceof ExecutableElement && method.getModifiers().contains(Modifier.PUBLIC);
                deepest = Math.max(deepest, open ? depth(reader, method, new ArrayList<>()) : 0);
            }
            need(deepest > 1 && deepest <= DEEPEST, "11 calls go " + deepest + " deep");
            System.out.println(wrong == 0 ? "the source keeps the rules, " + deepest + " calls deep"
                    : wrong + " rules are not kept");
        }
        if (wrong != 0) {
            System.exit(1);
        }
    }
}
