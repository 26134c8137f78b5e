import com.sun.source.tree.ArrayAccessTree;
import com.sun.source.tree.AssignmentTree;
import com.sun.source.tree.BlockTree;
import com.sun.source.tree.ClassTree;
import com.sun.source.tree.CompilationUnitTree;
import com.sun.source.tree.CompoundAssignmentTree;
import com.sun.source.tree.ExpressionTree;
import com.sun.source.tree.ForLoopTree;
import com.sun.source.tree.MethodInvocationTree;
import com.sun.source.tree.MethodTree;
import com.sun.source.tree.NewArrayTree;
import com.sun.source.tree.NewClassTree;
import com.sun.source.tree.Tree;
import com.sun.source.tree.UnaryTree;
import com.sun.source.tree.VariableTree;
import com.sun.source.util.JavacTask;
import com.sun.source.util.TreePath;
import com.sun.source.util.TreePathScanner;
import com.sun.source.util.Trees;
import java.io.File;
import java.util.HashMap;
import java.util.HashSet;
import java.util.List;
import java.util.Map;
import java.util.Set;
import java.util.TreeSet;
import javax.lang.model.element.Element;
import javax.lang.model.element.ElementKind;
import javax.lang.model.element.Modifier;
import javax.lang.model.element.TypeElement;
import javax.lang.model.element.VariableElement;
import javax.lang.model.type.ArrayType;
import javax.lang.model.type.DeclaredType;
import javax.lang.model.type.TypeKind;
import javax.lang.model.type.TypeMirror;
import javax.tools.JavaCompiler;
import javax.tools.StandardJavaFileManager;
import javax.tools.ToolProvider;

/**
 * The rules of LANGUAGE.md that can be seen in the source. Where the class needs less than a rule gives
 * (it has no exceptions, lists, texts or recursion), the test asks for that less, since it is plainer to see.
 */
public final class LanguageTests {
    private static final Set<String> LIBRARY = Set.of("java.lang.Math.max(int,int)", "java.lang.Math.min(int,int)");
    private static final Set<Tree.Kind> NOT_USED = Set.of(
            Tree.Kind.LAMBDA_EXPRESSION, Tree.Kind.MEMBER_REFERENCE, Tree.Kind.TRY, Tree.Kind.THROW,
            Tree.Kind.SYNCHRONIZED, Tree.Kind.ASSERT, Tree.Kind.TYPE_CAST, Tree.Kind.INSTANCE_OF,
            Tree.Kind.WHILE_LOOP, Tree.Kind.DO_WHILE_LOOP, Tree.Kind.IMPORT, Tree.Kind.PACKAGE,
            Tree.Kind.STRING_LITERAL, Tree.Kind.NULL_LITERAL, Tree.Kind.DOUBLE_LITERAL, Tree.Kind.FLOAT_LITERAL,
            Tree.Kind.ANNOTATION, Tree.Kind.ENUM, Tree.Kind.RECORD, Tree.Kind.INTERFACE);

    private static int wrong = 0;

    public static void main(String[] args) throws Exception {
        JavaCompiler compiler = ToolProvider.getSystemJavaCompiler();
        try (StandardJavaFileManager files = compiler.getStandardFileManager(null, null, null)) {
            JavacTask task = (JavacTask) compiler.getTask(null, files, null, List.of("-proc:none", "--release", "17"),
                    null, files.getJavaFileObjects(new File("src/main/java/RoamingRegisters.java")));
            CompilationUnitTree unit = task.parse().iterator().next();
            task.analyze();
            Reader reader = new Reader(Trees.instance(task), unit);
            reader.scan(unit, null);
            reader.lookAtWhole();
        }
        System.out.println(wrong == 0 ? "the language is as due" : wrong + " places are not as due");
        if (wrong != 0) {
            System.exit(1);
        }
    }

    private static final class Reader extends TreePathScanner<Void, Void> {
        private final Trees trees;
        private final CompilationUnitTree unit;
        private final Map<Element, Set<Element>> calls = new HashMap<>();
        private int classes = 0;
        private Element method = null;

        Reader(Trees trees, CompilationUnitTree unit) {
            this.trees = trees;
            this.unit = unit;
        }

        private void tell(int rule, Tree where, String what) {
            tell("rule " + rule, where, what);
        }

        private void tell(String why, Tree where, String what) {
            wrong++;
            System.out.println(why + ", line " + line(trees.getSourcePositions().getStartPosition(unit, where)) + ": " + what);
        }

        private long line(long position) {
            return unit.getLineMap().getLineNumber(position);
        }

        private Element element() {
            return trees.getElement(getCurrentPath());
        }

        private boolean isOwn(Element e) {
            for (Element at = e; at != null; at = at.getEnclosingElement()) {
                if (at.getSimpleName().contentEquals("RoamingRegisters")) {
                    return true;
                }
            }
            return false;
        }

        @Override
        public Void scan(Tree tree, Void none) {
            if (tree != null && NOT_USED.contains(tree.getKind())) {
                tell("not needed", tree, tree.getKind().toString());
            }
            return super.scan(tree, none);
        }

        @Override
        public Void visitClass(ClassTree tree, Void none) {
            classes++;
            int fields = 0;
            for (Tree member : tree.getMembers()) {
                if (member instanceof BlockTree) {
                    tell(5, member, "a block outside a method");
                }
                if (member instanceof VariableTree && !((VariableTree) member).getModifiers().getFlags().contains(Modifier.STATIC)) {
                    fields++;
                }
            }
            if (fields > 20) {
                tell(11, tree, fields + " fields");
            }
            ElementKind around = element().getEnclosingElement().getKind();
            if (around != ElementKind.PACKAGE && !tree.getModifiers().getFlags().contains(Modifier.STATIC)) {
                tell(2, tree, "a class inside that is not static");
            }
            return super.visitClass(tree, none);
        }

        @Override
        public Void visitMethod(MethodTree tree, Void none) {
            method = element();
            calls.put(method, new HashSet<>());
            if (tree.getParameters().size() > 7) {
                tell(11, tree, "more than seven parameters");
            }
            long first = line(trees.getSourcePositions().getStartPosition(unit, tree));
            long last = line(Math.max(0, trees.getSourcePositions().getEndPosition(unit, tree)));
            if (last - first >= 60) {
                tell(11, tree, "a method of " + (last - first + 1) + " lines");
            }
            super.visitMethod(tree, none);
            method = null;
            return null;
        }

        @Override
        public Void visitVariable(VariableTree tree, Void none) {
            Set<Modifier> flags = tree.getModifiers().getFlags();
            TypeMirror type = element().asType();
            if (!isAllowed(type)) {
                tell(3, tree, "the type " + type);
            }
            if (flags.contains(Modifier.STATIC) && !flags.contains(Modifier.FINAL)) {
                tell(5, tree, "a static field that is not final");
            }
            if (flags.contains(Modifier.STATIC) && !isConstant(tree, type)) {
                tell(5, tree, "a static field that is no constant");
            }
            return super.visitVariable(tree, none);
        }

        private boolean isAllowed(TypeMirror type) {
            switch (type.getKind()) {
                case INT:
                case BOOLEAN:
                    return true;
                case DECLARED:
                    return isOwn(((DeclaredType) type).asElement());
                case ARRAY:
                    TypeMirror of = ((ArrayType) type).getComponentType();
                    return of.getKind() != TypeKind.ARRAY && isAllowed(of);
                default:
                    return false;
            }
        }

        private boolean isConstant(VariableTree tree, TypeMirror type) {
            if (type.getKind() == TypeKind.ARRAY) {
                return tree.getInitializer() instanceof NewArrayTree && type.toString().equals("int[]");
            }
            return ((VariableElement) element()).getConstantValue() != null;
        }

        @Override
        public Void visitMethodInvocation(MethodInvocationTree tree, Void none) {
            Element called = trees.getElement(new TreePath(getCurrentPath(), tree.getMethodSelect()));
            noteCall(tree, called);
            return super.visitMethodInvocation(tree, none);
        }

        /** The class makes all its rows in constructors, so no run of calls makes more than its objects do. */
        private void lookAtMade(Tree tree) {
            if (method != null && method.getKind() != ElementKind.CONSTRUCTOR) {
                tell(12, tree, "an object or array made by a call");
            }
        }

        @Override
        public Void visitNewArray(NewArrayTree tree, Void none) {
            lookAtMade(tree);
            return super.visitNewArray(tree, none);
        }

        @Override
        public Void visitNewClass(NewClassTree tree, Void none) {
            if (tree.getClassBody() != null) {
                tell(2, tree, "an anonymous class");
            }
            lookAtMade(tree);
            noteCall(tree, element());
            return super.visitNewClass(tree, none);
        }

        private void noteCall(Tree tree, Element called) {
            String name = ((TypeElement) called.getEnclosingElement()).getQualifiedName() + "." + called;
            boolean isSuper = called.getKind() == ElementKind.CONSTRUCTOR && name.startsWith("java.lang.Object.");
            if (!isOwn(called) && !isSuper && !LIBRARY.contains(name)) {
                tell(4, tree, "calls " + name);
            }
            if (isOwn(called) && method != null) {
                calls.get(method).add(called);
            }
        }

        @Override
        public Void visitForLoop(ForLoopTree tree, Void none) {
            if (tree.getCondition() == null || tree.getUpdate().isEmpty()) {
                tell(9, tree, "a loop without a bound or a step");
            }
            return super.visitForLoop(tree, none);
        }

        @Override
        public Void visitAssignment(AssignmentTree tree, Void none) {
            lookAtChanged(tree.getVariable());
            return super.visitAssignment(tree, none);
        }

        @Override
        public Void visitCompoundAssignment(CompoundAssignmentTree tree, Void none) {
            lookAtChanged(tree.getVariable());
            return super.visitCompoundAssignment(tree, none);
        }

        @Override
        public Void visitUnary(UnaryTree tree, Void none) {
            lookAtChanged(tree.getExpression());
            return super.visitUnary(tree, none);
        }

        private void lookAtChanged(ExpressionTree changed) {
            if (!(changed instanceof ArrayAccessTree)) {
                return;
            }
            ExpressionTree array = ((ArrayAccessTree) changed).getExpression();
            Element field = trees.getElement(new TreePath(getCurrentPath(), array));
            if (field != null && field.getModifiers().contains(Modifier.STATIC)) {
                tell(5, changed, "changes the constant " + field);
            }
        }

        void lookAtWhole() {
            if (classes > 12) {
                tell(11, unit, classes + " classes");
            }
            for (Element from : calls.keySet()) {
                int depth = depth(from, new TreeSet<>());
                if (depth > 8) {
                    tell(11, unit, "calls from " + from + " go " + depth + " deep");
                }
            }
        }

        /** How many calls stand open at once from this one on; a recursion counts as one of no end. */
        private int depth(Element from, Set<String> open) {
            String name = from.getEnclosingElement() + "." + from;
            if (!open.add(name)) {
                return 1000;
            }
            int deepest = 0;
            for (Element to : calls.getOrDefault(from, Set.of())) {
                deepest = Math.max(deepest, depth(to, open));
            }
            open.remove(name);
            return deepest + 1;
        }
    }
}
