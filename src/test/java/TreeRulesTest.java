import com.sun.source.tree.AssertTree;
import com.sun.source.tree.BinaryTree;
import com.sun.source.tree.ClassTree;
import com.sun.source.tree.CompilationUnitTree;
import com.sun.source.tree.DoWhileLoopTree;
import com.sun.source.tree.ExpressionTree;
import com.sun.source.tree.ForLoopTree;
import com.sun.source.tree.LambdaExpressionTree;
import com.sun.source.tree.MemberReferenceTree;
import com.sun.source.tree.MethodInvocationTree;
import com.sun.source.tree.MethodTree;
import com.sun.source.tree.NewArrayTree;
import com.sun.source.tree.NewClassTree;
import com.sun.source.tree.SynchronizedTree;
import com.sun.source.tree.ThrowTree;
import com.sun.source.tree.Tree;
import com.sun.source.tree.TryTree;
import com.sun.source.tree.TypeCastTree;
import com.sun.source.tree.VariableTree;
import com.sun.source.tree.WhileLoopTree;
import com.sun.source.util.JavacTask;
import com.sun.source.util.TreePath;
import com.sun.source.util.TreePathScanner;
import com.sun.source.util.Trees;
import java.nio.file.Path;
import java.util.HashMap;
import java.util.HashSet;
import java.util.LinkedHashSet;
import java.util.List;
import java.util.Map;
import java.util.Set;
import javax.lang.model.element.Element;
import javax.lang.model.element.ElementKind;
import javax.lang.model.element.ExecutableElement;
import javax.lang.model.element.Modifier;
import javax.lang.model.element.TypeElement;
import javax.lang.model.element.VariableElement;
import javax.lang.model.type.TypeKind;
import javax.lang.model.type.TypeMirror;
import javax.tools.JavaCompiler;
import javax.tools.StandardJavaFileManager;
import javax.tools.ToolProvider;

/** The rules of LANGUAGE.md, by number, that the compiler's tree of the class shows. */
public final class TreeRulesTest {
    private static final int DEEPEST = 8;

    private static final Set<String> LIBRARY = Set.of("Math.max", "Math.min", "Math.abs", "Integer.compare",
        "Integer.signum", "Integer.bitCount", "Long.compare", "Long.signum", "System.arraycopy");

    private static final Set<TypeKind> NUMBERS = Set.of(TypeKind.INT, TypeKind.LONG, TypeKind.SHORT, TypeKind.BYTE,
        TypeKind.CHAR, TypeKind.BOOLEAN);

    private TreeRulesTest() {
    }

    public static void main(String[] args) throws Exception {
        JavaCompiler compiler = ToolProvider.getSystemJavaCompiler();
        try (StandardJavaFileManager files = compiler.getStandardFileManager(null, null, null)) {
            var sources = files.getJavaFileObjects(Path.of("src/main/java/TwoLeash.java"));
            JavacTask task = (JavacTask) compiler.getTask(null, files, null, List.of("-proc:none"), null, sources);
            Iterable<? extends CompilationUnitTree> units = task.parse();
            task.analyze();
            Rules rules = new Rules(Trees.instance(task));
            for (CompilationUnitTree unit : units) {
                Checks.due("rule 4: imports", unit.getImports().size(), 0);
                Checks.due("one file, one class at its top", unit.getTypeDecls().size(), 1);
                rules.scan(unit, null);
            }
            rules.callsGoNoDeeper();
        }
        Checks.end();
    }

    private static final class Rules extends TreePathScanner<Void, Void> {
        private final Trees trees;
        private final Map<Element, Set<Element>> calls = new HashMap<>();
        private Element method = null;
        private int classes = 0;

        Rules(Trees trees) {
            this.trees = trees;
        }

        private Element here() {
            return trees.getElement(getCurrentPath());
        }

        private TypeMirror typeOf(ExpressionTree tree) {
            return trees.getTypeMirror(new TreePath(getCurrentPath(), tree));
        }

        private static boolean isOwn(Element element) {
            for (Element at = element; at != null; at = at.getEnclosingElement()) {
                if (at.getSimpleName().contentEquals("TwoLeash")) {
                    return true;
                }
            }
            return false;
        }

        private static boolean isAllowed(String shown, TypeMirror type) {
            boolean own = shown.startsWith("TwoLeash");
            return NUMBERS.contains(type.getKind()) || type.getKind() == TypeKind.VOID || own
                || type.getKind() == TypeKind.ARRAY && shown.matches("(int|long|byte|char|TwoLeash[.]\\w+)\\[\\]");
        }

        private void dueAllowed(String rule, TypeMirror type) {
            Checks.due(rule + " " + type, isAllowed(type.toString(), type), true);
        }

        private void forbid(String what, Tree tree) {
            Checks.due(what + ": " + tree, false, true);
        }

        @Override
        public Void visitClass(ClassTree tree, Void none) {
            TypeElement type = (TypeElement) here();
            boolean outer = type.getSimpleName().contentEquals("TwoLeash");
            Set<Modifier> signs = type.getModifiers();
            Checks.due("rule 1: public and final " + type, signs.contains(Modifier.FINAL), true);
            Checks.due("rule 1: public alone " + type, signs.contains(Modifier.PUBLIC), outer);
            Checks.due("rule 2: static " + type, outer || signs.contains(Modifier.STATIC), true);
            Checks.due("rule 2: a class " + type, type.getKind() == ElementKind.CLASS, true);
            Checks.due("rule 2: inside of TwoLeash " + type, outer
                || type.getEnclosingElement().getSimpleName().contentEquals("TwoLeash"), true);
            classes++;
            Checks.due("rule 11: some twelve classes", classes <= 12, true);
            int fields = 0;
            for (Element member : type.getEnclosedElements()) {
                boolean constant = member.getModifiers().contains(Modifier.STATIC);
                fields += member.getKind() == ElementKind.FIELD && !constant ? 1 : 0;
                Checks.due("rule 5: no static block", member.getKind() == ElementKind.STATIC_INIT, false);
            }
            Checks.due("rule 11: some twenty fields of " + type, fields <= 20, true);
            return super.visitClass(tree, none);
        }

        @Override
        public Void visitMethod(MethodTree tree, Void none) {
            Element before = method;
            method = here();
            calls.computeIfAbsent(method, any -> new LinkedHashSet<>());
            int most = tree.getName().contentEquals("free") ? 8 : 7;
            Checks.due("rule 11: parameters of " + method, tree.getParameters().size() <= most, true);
            Checks.due("rule 6: throws of " + method, tree.getThrows().size(), 0);
            dueAllowed("rule 3: answer of " + method, ((ExecutableElement) method).getReturnType());
            super.visitMethod(tree, none);
            method = before;
            return null;
        }

        @Override
        public Void visitVariable(VariableTree tree, Void none) {
            VariableElement variable = (VariableElement) here();
            dueAllowed("rule 3: " + variable, variable.asType());
            if (variable.getModifiers().contains(Modifier.STATIC)) {
                Checks.due("rule 5: final " + variable, variable.getModifiers().contains(Modifier.FINAL), true);
                Checks.due("rule 5: a constant " + variable, variable.getConstantValue() != null, true);
            }
            return super.visitVariable(tree, none);
        }

        @Override
        public Void visitMethodInvocation(MethodInvocationTree tree, Void none) {
            Element called = here();
            String shown = called.getEnclosingElement().getSimpleName() + "." + called.getSimpleName();
            boolean ofObject = shown.equals("Object.<init>");
            Checks.due("rule 4: " + shown, isOwn(called) || ofObject || LIBRARY.contains(shown), true);
            if (isOwn(called) && method != null) {
                calls.get(method).add(called);
                boolean open = called.getModifiers().contains(Modifier.PUBLIC);
                Checks.due("rule 12: a constructor calls nothing open",
                    open && method.getKind() == ElementKind.CONSTRUCTOR, false);
            }
            return super.visitMethodInvocation(tree, none);
        }

        /** All that is made is made with the object: README.md says so, and rule 12 wants it small. */
        private void dueInConstructor(Tree tree) {
            Checks.due("made by a call: " + tree, method == null || method.getKind() == ElementKind.CONSTRUCTOR, true);
        }

        @Override
        public Void visitNewClass(NewClassTree tree, Void none) {
            dueInConstructor(tree);
            Checks.due("rule 2: no class without a name", tree.getClassBody() == null, true);
            Checks.due("rule 4: made of own classes " + tree, isOwn(here()), true);
            return super.visitNewClass(tree, none);
        }

        @Override
        public Void visitNewArray(NewArrayTree tree, Void none) {
            dueInConstructor(tree);
            Checks.due("rule 3: one dimension " + tree, tree.getDimensions().size(), 1);
            return super.visitNewArray(tree, none);
        }

        @Override
        public Void visitTypeCast(TypeCastTree tree, Void none) {
            TypeMirror to = trees.getTypeMirror(getCurrentPath());
            Checks.due("rule 6: a cast of numbers " + tree, NUMBERS.contains(to.getKind()), true);
            return super.visitTypeCast(tree, none);
        }

        @Override
        public Void visitBinary(BinaryTree tree, Void none) {
            boolean same = tree.getKind() == Tree.Kind.EQUAL_TO || tree.getKind() == Tree.Kind.NOT_EQUAL_TO;
            for (ExpressionTree part : List.of(tree.getLeftOperand(), tree.getRightOperand())) {
                TypeMirror type = typeOf(part);
                boolean number = NUMBERS.contains(type.getKind());
                boolean own = type.getKind() == TypeKind.NULL || type.toString().startsWith("TwoLeash");
                Checks.due("rules 6, 10: " + tree, number || same && own, true);
            }
            boolean divides = tree.getKind() == Tree.Kind.DIVIDE || tree.getKind() == Tree.Kind.REMAINDER;
            if (divides && !isConstant(tree.getRightOperand())) {
                Checks.due("rule 7: the divisor is looked at in " + method + ": " + tree,
                    Set.of("reduce", "signOf").contains(method.getSimpleName().toString()), true);
            }
            return super.visitBinary(tree, none);
        }

        private boolean isConstant(ExpressionTree tree) {
            Element named = trees.getElement(new TreePath(getCurrentPath(), tree));
            boolean constant = named instanceof VariableElement variable && variable.getConstantValue() != null;
            return constant || tree.getKind() == Tree.Kind.INT_LITERAL;
        }

        @Override
        public Void visitForLoop(ForLoopTree tree, Void none) {
            Checks.due("rule 9: a bound of " + tree, tree.getCondition() != null, true);
            Checks.due("rule 9: a counter of " + tree, tree.getUpdate().size(), 1);
            return super.visitForLoop(tree, none);
        }

        @Override
        public Void visitWhileLoop(WhileLoopTree tree, Void none) {
            Checks.due("rule 9: a bound of " + tree, tree.getCondition().toString().contains("<"), true);
            return super.visitWhileLoop(tree, none);
        }

        @Override
        public Void visitDoWhileLoop(DoWhileLoopTree tree, Void none) {
            Checks.due("rule 9: a bound of " + tree, tree.getCondition().toString().contains("<"), true);
            return super.visitDoWhileLoop(tree, none);
        }

        @Override
        public Void visitThrow(ThrowTree tree, Void none) {
            forbid("rule 6: throw", tree);
            return null;
        }

        @Override
        public Void visitTry(TryTree tree, Void none) {
            forbid("rule 6: try", tree);
            return null;
        }

        @Override
        public Void visitAssert(AssertTree tree, Void none) {
            forbid("rule 6: assert", tree);
            return null;
        }

        @Override
        public Void visitSynchronized(SynchronizedTree tree, Void none) {
            forbid("rule 6: synchronized", tree);
            return null;
        }

        @Override
        public Void visitLambdaExpression(LambdaExpressionTree tree, Void none) {
            forbid("rule 2: lambda", tree);
            return null;
        }

        @Override
        public Void visitMemberReference(MemberReferenceTree tree, Void none) {
            forbid("rule 2: method reference", tree);
            return null;
        }

        /** Rules 8 and 11: no call comes back to a method that is open, and none goes deeper than eight. */
        void callsGoNoDeeper() {
            int deepest = 0;
            int opened = 0;
            for (Element called : calls.keySet()) {
                if (called.getModifiers().contains(Modifier.PUBLIC)) {
                    deepest = Math.max(deepest, depth(called, new HashSet<>()));
                    opened++;
                }
            }
            Checks.due("rule 11: calls go " + deepest + " deep", deepest <= DEEPEST, true);
            Checks.due("public methods and the constructor", opened, 42);
            Checks.due("methods seen", calls.size() > 100, true);
        }

        private int depth(Element called, Set<Element> open) {
            Checks.due("rule 8: " + called + " stands open already", open.add(called), true);
            int deepest = 0;
            for (Element next : calls.getOrDefault(called, Set.of())) {
                if (!open.contains(next)) {
                    deepest = Math.max(deepest, depth(next, open));
                } else {
                    Checks.due("rule 8: " + next + " calls itself", false, true);
                }
            }
            open.remove(called);
            return deepest + 1;
        }
    }
}
