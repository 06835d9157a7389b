import com.sun.source.tree.BinaryTree;
import com.sun.source.tree.BlockTree;
import com.sun.source.tree.ClassTree;
import com.sun.source.tree.CompilationUnitTree;
import com.sun.source.tree.CompoundAssignmentTree;
import com.sun.source.tree.ExpressionTree;
import com.sun.source.tree.MethodInvocationTree;
import com.sun.source.tree.MethodTree;
import com.sun.source.tree.NewArrayTree;
import com.sun.source.tree.NewClassTree;
import com.sun.source.tree.Tree;
import com.sun.source.tree.VariableTree;
import com.sun.source.util.JavacTask;
import com.sun.source.util.TreePathScanner;
import com.sun.source.util.Trees;
import java.io.File;
import java.io.IOException;
import java.util.ArrayList;
import java.util.EnumSet;
import java.util.List;
import java.util.Map;
import java.util.Set;
import java.util.TreeMap;
import java.util.TreeSet;
import javax.lang.model.element.Element;
import javax.lang.model.element.ElementKind;
import javax.lang.model.element.ExecutableElement;
import javax.lang.model.element.Modifier;
import javax.lang.model.element.TypeElement;
import javax.lang.model.type.TypeKind;
import javax.lang.model.type.TypeMirror;
import javax.tools.JavaCompiler;
import javax.tools.StandardJavaFileManager;
import javax.tools.ToolProvider;

/** The rules of LANGUAGE.md that the compiler's own trees show: kinds of code, types, the library, calls in calls. */
public final class LanguageTreeTest {
    private static final Due due = new Due("LanguageTreeTest");
    private static final Set<Tree.Kind> NEVER = EnumSet.of(
        Tree.Kind.LAMBDA_EXPRESSION, Tree.Kind.MEMBER_REFERENCE, Tree.Kind.THROW, Tree.Kind.TRY, Tree.Kind.CATCH,
        Tree.Kind.SYNCHRONIZED, Tree.Kind.ASSERT, Tree.Kind.IMPORT, Tree.Kind.PACKAGE, Tree.Kind.YIELD,
        Tree.Kind.ANNOTATION);
    /** Of the types and calls that rules 3 and 4 leave, those that the class has use for; more of them may be put here. */
    private static final Set<String> LIBRARY = Set.of(
        "java.lang.Math.min", "java.lang.Math.max", "java.lang.Integer.bitCount", "java.lang.System.arraycopy",
        "Array.clone", "java.lang.Object.<init>");
    private static final Set<String> NUMBERS = Set.of("int", "long", "boolean", "char", "byte", "short");
    private static final int DEEPEST = 8;

    private static final Map<String, Set<String>> calls = new TreeMap<>();
    private static final Set<String> kinds = new TreeSet<>();

    public static void main(String[] args) throws IOException {
        JavaCompiler compiler = ToolProvider.getSystemJavaCompiler();
        try (StandardJavaFileManager files = compiler.getStandardFileManager(null, null, null)) {
            JavacTask task = (JavacTask) compiler.getTask(null, files, null, List.of("-proc:none"), null,
                files.getJavaFileObjects(new File("src/main/java/StraitFleet.java")));
            Iterable<? extends CompilationUnitTree> units = task.parse();
            task.analyze();
            for (CompilationUnitTree unit : units) {
                new Look(Trees.instance(task), unit).scan(unit, null);
            }
        }
        due.holds("methods are found", calls.size() > 80);
        due.holds("loops and conditions are found", kinds.contains("FOR_LOOP") && kinds.contains("IF"));
        for (String method : calls.keySet()) {
            int deep = depth(method, List.of());
            due.holds("rules 8 and 11: " + method + " goes " + deep + " deep (1000 on: it calls itself)", deep <= DEEPEST);
        }
        due.close();
    }

    /** How many calls stand open at once, this one too; far beyond all, if one of them is open already. */
    private static int depth(String method, List<String> open) {
        if (open.contains(method)) {
            return 1000;
        }
        List<String> now = new ArrayList<>(open);
        now.add(method);
        int deepest = 0;
        for (String called : calls.getOrDefault(method, Set.of())) {
            deepest = Math.max(deepest, depth(called, now));
        }
        return deepest + 1;
    }

    private static final class Look extends TreePathScanner<Void, Void> {
        private final Trees trees;
        private final CompilationUnitTree unit;
        private String method = "";

        Look(Trees trees, CompilationUnitTree unit) {
            this.trees = trees;
            this.unit = unit;
        }

        @Override
        public Void scan(Tree tree, Void none) {
            if (tree != null) {
                kinds.add(tree.getKind().toString());
                due.holds("rules 2, 4 and 6: no " + tree.getKind() + " in " + method, !NEVER.contains(tree.getKind()));
            }
            return super.scan(tree, none);
        }

        private TypeMirror type(Tree tree) {
            return trees.getTypeMirror(trees.getPath(unit, tree));
        }

        private Element element(Tree tree) {
            return trees.getElement(trees.getPath(unit, tree));
        }

        private boolean isOwn(Element type) {
            return type != null && (type.toString().equals("StraitFleet") || type.toString().startsWith("StraitFleet."));
        }

        private boolean mayBe(TypeMirror type) {
            String words = type.toString().replace("[]", "");
            return NUMBERS.contains(words) || words.equals("StraitFleet") || words.startsWith("StraitFleet.");
        }

        @Override
        public Void visitClass(ClassTree tree, Void none) {
            TypeElement type = (TypeElement) element(tree);
            boolean outer = type.getEnclosingElement().getKind() == ElementKind.PACKAGE;
            due.holds("rule 2: " + type + " is no local or anonymous class", outer || isOwn(type.getEnclosingElement()));
            due.holds("rule 2: " + type + " is static", outer || type.getModifiers().contains(Modifier.STATIC));
            due.holds("rule 1: " + type + " is not open", outer || !type.getModifiers().contains(Modifier.PUBLIC)
                && !type.getModifiers().contains(Modifier.PROTECTED));
            for (Tree member : tree.getMembers()) {
                due.holds("rule 5: no block in " + type, !(member instanceof BlockTree));
            }
            return super.visitClass(tree, none);
        }

        @Override
        public Void visitMethod(MethodTree tree, Void none) {
            ExecutableElement made = (ExecutableElement) element(tree);
            String before = method;
            method = nameOf(made);
            // calls are told by names below
            due.holds("no other method has the name " + method, calls.put(method, new TreeSet<>()) == null);
            due.holds("rule 11: " + method + " takes seven at most", tree.getParameters().size() <= 7);
            due.holds("rule 6: " + method + " tells of no exception", tree.getThrows().isEmpty());
            boolean answers = made.getReturnType().getKind() != TypeKind.VOID;
            due.holds("rule 3: what " + method + " answers", !answers || mayBe(made.getReturnType()));
            super.visitMethod(tree, none);
            method = before;
            return null;
        }

        @Override
        public Void visitVariable(VariableTree tree, Void none) {
            Element variable = element(tree);
            due.holds("rule 3: the type of " + tree.getName(), mayBe(variable.asType()));
            if (variable.getModifiers().contains(Modifier.STATIC)) {
                due.holds("rule 5: " + tree.getName() + " is final", variable.getModifiers().contains(Modifier.FINAL));
                due.holds("rule 5: " + tree.getName() + " is told at once", tree.getInitializer() != null);
                due.holds("rule 5: " + tree.getName() + " is of numbers", !isOwn(element(tree.getType())));
            }
            return super.visitVariable(tree, none);
        }

        @Override
        public Void visitMethodInvocation(MethodInvocationTree tree, Void none) {
            Element called = element(tree.getMethodSelect());
            String name = nameOf((ExecutableElement) called);
            if (isOwn(called.getEnclosingElement())) {
                due.holds("a call outside of a method: " + name, !method.isEmpty());
            } else {
                due.holds("rule 4: " + name + " in " + method, LIBRARY.contains(name));
            }
            noteCall(name);
            return super.visitMethodInvocation(tree, none);
        }

        @Override
        public Void visitNewClass(NewClassTree tree, Void none) {
            due.holds("rule 2: no class at once", tree.getClassBody() == null);
            due.holds("rule 4: new " + tree.getIdentifier(), isOwn(element(tree.getIdentifier())));
            // the class promises that nothing is made once an object stands
            due.holds("nothing is made in " + method, method.isEmpty() || method.endsWith("<init>"));
            noteCall(nameOf((ExecutableElement) element(tree)));
            return super.visitNewClass(tree, none);
        }

        @Override
        public Void visitNewArray(NewArrayTree tree, Void none) {
            due.holds("rule 3: an array of one dimension", tree.getDimensions().size() <= 1);
            due.holds("nothing is made in " + method, method.isEmpty() || method.endsWith("<init>"));
            return super.visitNewArray(tree, none);
        }

        @Override
        public Void visitBinary(BinaryTree tree, Void none) {
            boolean compares = tree.getKind() == Tree.Kind.EQUAL_TO || tree.getKind() == Tree.Kind.NOT_EQUAL_TO;
            due.holds("rules 3, 6 and 10: " + tree + " is of numbers",
                compares || isNumber(tree.getLeftOperand()) && isNumber(tree.getRightOperand()));
            return super.visitBinary(tree, none);
        }

        @Override
        public Void visitCompoundAssignment(CompoundAssignmentTree tree, Void none) {
            due.holds("rule 10: " + tree + " is of numbers", isNumber(tree.getVariable()));
            return super.visitCompoundAssignment(tree, none);
        }

        private boolean isNumber(ExpressionTree tree) {
            return NUMBERS.contains(type(tree).toString());
        }

        private void noteCall(String name) {
            if (!method.isEmpty()) {
                calls.get(method).add(name);
            }
        }

        private String nameOf(ExecutableElement called) {
            return called.getEnclosingElement() + "." + called.getSimpleName();
        }
    }
}
