import com.sun.source.tree.AssertTree;
import com.sun.source.tree.BinaryTree;
import com.sun.source.tree.BlockTree;
import com.sun.source.tree.ClassTree;
import com.sun.source.tree.CompilationUnitTree;
import com.sun.source.tree.DoWhileLoopTree;
import com.sun.source.tree.ExpressionTree;
import com.sun.source.tree.ForLoopTree;
import com.sun.source.tree.LambdaExpressionTree;
import com.sun.source.tree.LiteralTree;
import com.sun.source.tree.MemberReferenceTree;
import com.sun.source.tree.MethodInvocationTree;
import com.sun.source.tree.MethodTree;
import com.sun.source.tree.NewArrayTree;
import com.sun.source.tree.NewClassTree;
import com.sun.source.tree.SynchronizedTree;
import com.sun.source.tree.ThrowTree;
import com.sun.source.tree.Tree;
import com.sun.source.tree.TryTree;
import com.sun.source.tree.VariableTree;
import com.sun.source.tree.WhileLoopTree;
import com.sun.source.util.JavacTask;
import com.sun.source.util.TreePathScanner;
import com.sun.source.util.Trees;
import java.io.File;
import java.nio.file.Files;
import java.nio.file.Path;
import java.util.ArrayList;
import java.util.HashMap;
import java.util.HashSet;
import java.util.List;
import java.util.Map;
import java.util.Set;
import javax.lang.model.element.Element;
import javax.lang.model.element.ElementKind;
import javax.lang.model.element.ExecutableElement;
import javax.lang.model.element.Modifier;
import javax.lang.model.element.TypeElement;
import javax.lang.model.type.TypeMirror;
import javax.tools.JavaCompiler;
import javax.tools.StandardJavaFileManager;
import javax.tools.ToolProvider;

/**
 * LANGUAGE.md, as far as it can be read off the source: the class uses even less than the rules leave (no lists, no
 * texts, no try, no while, no doubles), and what it uses is looked at here.
 */
public final class LanguageTest extends TreePathScanner<Void, Void> {
    private static final Path SOURCE = Path.of("src/main/java/LoneWire.java");
    private static final int MOST_DEEP = 8;
    private static final Set<String> LIBRARY = Set.of("java.lang.Math.max", "java.lang.Math.min");
    private static final Set<String> EXCEPTIONS = Set.of("IllegalArgumentException", "NoSuchElementException");
    private static final Set<String> VALUES = Set.of("int", "long", "boolean", "int[]", "long[]");

    private final Trees trees;
    private final javax.lang.model.util.Elements elements;
    private final Map<ExecutableElement, Set<ExecutableElement>> calls = new HashMap<>();
    private final Set<String> ownTypes = new HashSet<>();
    private final List<ExecutableElement> methods = new ArrayList<>();
    private ExecutableElement within;
    private int loops;

    private LanguageTest(Trees trees, javax.lang.model.util.Elements elements) {
        this.trees = trees;
        this.elements = elements;
    }

    public static void main(String[] args) throws Exception {
        JavaCompiler compiler = ToolProvider.getSystemJavaCompiler();
        try (StandardJavaFileManager files = compiler.getStandardFileManager(null, null, null)) {
            var sources = files.getJavaFileObjects(new File(SOURCE.toString()));
            JavacTask task = (JavacTask) compiler.getTask(null, files, null, List.of("-proc:none"), null, sources);
            Iterable<? extends CompilationUnitTree> units = task.parse();
            task.analyze();
            LanguageTest test = new LanguageTest(Trees.instance(task), task.getElements());
            for (CompilationUnitTree unit : units) {
                test.lookAtAll(unit);
            }
        }
        Check.end();
    }

    private void lookAtAll(CompilationUnitTree unit) throws Exception {
        Check.due("no package line", true, unit.getPackageName() == null);
        Check.due("one import", 1, unit.getImports().size());
        Check.due("one class outside", 1, unit.getTypeDecls().size());
        Check.due("signs 1 to 127 (rule 4)", true, Files.readString(SOURCE).chars().allMatch(c -> c > 0 && c < 128));
        new TreePathScanner<Void, Void>() {
            @Override
            public Void visitClass(ClassTree tree, Void nothing) {
                ownTypes.add(trees.getElement(getCurrentPath()).asType().toString());
                return super.visitClass(tree, nothing);
            }
        }.scan(unit, null);
        Check.due("at most some twelve classes (rule 11)", true, ownTypes.size() <= 12);
        scan(unit, null);
        for (ExecutableElement method : methods) {
            if (method.getModifiers().contains(Modifier.PUBLIC)) {
                int deep = deep(method, new ArrayList<>());
                Check.due(method + " goes " + deep + " deep, at most eight (rule 11)", true, deep <= MOST_DEEP);
            }
        }
    }

    // ---- classes, fields, methods

    @Override
    public Void visitClass(ClassTree tree, Void nothing) {
        Element element = trees.getElement(getCurrentPath());
        boolean outside = element.getEnclosingElement().getKind() == ElementKind.PACKAGE;
        boolean isStatic = element.getModifiers().contains(Modifier.STATIC);
        Check.due(element + " stands in the class and is static (rules 1, 2)", true, outside || isStatic);
        for (Tree member : tree.getMembers()) {
            boolean block = member instanceof BlockTree;
            Check.due(element + " has no initialiser block (rule 5)", false, block);
        }
        return super.visitClass(tree, nothing);
    }

    @Override
    public Void visitVariable(VariableTree tree, Void nothing) {
        Element element = trees.getElement(getCurrentPath());
        String type = element.asType().toString();
        String of = type.endsWith("[]") ? type.substring(0, type.length() - 2) : type;
        Check.due(element + " is " + type + " (rule 3)", true, VALUES.contains(type) || ownTypes.contains(of));
        if (element.getModifiers().contains(Modifier.STATIC)) {
            Check.due(element + " is final (rule 5)", true, element.getModifiers().contains(Modifier.FINAL));
            Check.due(element + " is a number, or an array written out (rule 5)", true,
                type.equals("int") || type.equals("long")
                    || type.equals("int[]") && tree.getInitializer() instanceof NewArrayTree array
                        && array.getInitializers() != null);
        }
        return super.visitVariable(tree, nothing);
    }

    @Override
    public Void visitMethod(MethodTree tree, Void nothing) {
        within = (ExecutableElement) trees.getElement(getCurrentPath());
        methods.add(within);
        calls.put(within, new HashSet<>());
        Check.due(within + " takes at most seven (rule 11)", true, tree.getParameters().size() <= 7);
        Check.due(within + " is short (rule 11)", true, linesOf(tree) <= 60);
        super.visitMethod(tree, nothing);
        within = null;
        return null;
    }

    private long linesOf(MethodTree tree) {
        CompilationUnitTree unit = getCurrentPath().getCompilationUnit();
        long from = trees.getSourcePositions().getStartPosition(unit, tree);
        long to = trees.getSourcePositions().getEndPosition(unit, tree);
        return unit.getLineMap().getLineNumber(to) - unit.getLineMap().getLineNumber(from) + 1;
    }

    // ---- what is called and made

    @Override
    public Void visitMethodInvocation(MethodInvocationTree tree, Void nothing) {
        if (trees.getElement(getCurrentPath()) instanceof ExecutableElement called) {
            TypeElement owner = (TypeElement) called.getEnclosingElement();
            boolean own = ownTypes.contains(owner.asType().toString());
            boolean superConstructor = called.getKind() == ElementKind.CONSTRUCTOR;
            String name = owner.getQualifiedName() + "." + called.getSimpleName();
            Check.due(name + " is the class's own, or of the library that may be used (rule 4)", true,
                own || superConstructor || LIBRARY.contains(name));
            boolean inConstructor = within != null && within.getKind() == ElementKind.CONSTRUCTOR;
            Check.due(name + " is not called in a constructor (rule 12)", false, inConstructor && !superConstructor);
            if (within != null && own) {
                calls.get(within).add(called);
            }
        }
        return super.visitMethodInvocation(tree, nothing);
    }

    @Override
    public Void visitNewClass(NewClassTree tree, Void nothing) {
        String type = trees.getTypeMirror(getCurrentPath()).toString();
        String simple = type.substring(type.lastIndexOf('.') + 1);
        Check.due("new " + type + " (rules 4, 6)", true, ownTypes.contains(type) || EXCEPTIONS.contains(simple));
        Check.due("new " + type + " in no loop (rule 12)", 0, loops);
        Check.due("new " + type + " has no body", true, tree.getClassBody() == null);
        return super.visitNewClass(tree, nothing);
    }

    @Override
    public Void visitNewArray(NewArrayTree tree, Void nothing) {
        Check.due("new array in no loop (rule 12)", 0, loops);
        Check.due("arrays are made with the object, not by calls", true,
            within == null || within.getKind() == ElementKind.CONSTRUCTOR);
        return super.visitNewArray(tree, nothing);
    }

    // ---- statements

    @Override
    public Void visitThrow(ThrowTree tree, Void nothing) {
        ExpressionTree thrown = tree.getExpression();
        Check.due("throw new E(\"a written text\") (rule 6): " + thrown, true,
            thrown instanceof NewClassTree made && made.getArguments().size() == 1
                && made.getArguments().get(0) instanceof LiteralTree);
        Check.due("no throw in a constructor (rule 6)", false, within.getKind() == ElementKind.CONSTRUCTOR);
        return super.visitThrow(tree, nothing);
    }

    @Override
    public Void visitForLoop(ForLoopTree tree, Void nothing) {
        Check.due("a for has a counter, a bound and a step (rule 9): " + tree.getCondition(), true,
            tree.getInitializer().size() == 1 && tree.getUpdate().size() == 1
                && tree.getCondition() instanceof BinaryTree && tree.getCondition().toString().contains(" < "));
        loops++;
        super.visitForLoop(tree, nothing);
        loops--;
        return null;
    }

    @Override
    public Void visitBinary(BinaryTree tree, Void nothing) {
        boolean divides = tree.getKind() == Tree.Kind.DIVIDE || tree.getKind() == Tree.Kind.REMAINDER;
        boolean written = tree.getRightOperand() instanceof LiteralTree literal && !literal.toString().equals("0");
        Check.due("a divisor is a written number but 0 (rule 7): " + tree, true, !divides || written);
        TypeMirror type = trees.getTypeMirror(getCurrentPath());
        Check.due("numbers and booleans alone are joined (rules 3, 10): " + tree, true, VALUES.contains(type.toString()));
        return super.visitBinary(tree, nothing);
    }

    @Override
    public Void visitWhileLoop(WhileLoopTree tree, Void nothing) {
        return not("while");
    }

    @Override
    public Void visitDoWhileLoop(DoWhileLoopTree tree, Void nothing) {
        return not("do");
    }

    @Override
    public Void visitTry(TryTree tree, Void nothing) {
        return not("try");
    }

    @Override
    public Void visitLambdaExpression(LambdaExpressionTree tree, Void nothing) {
        return not("lambda (rule 2)");
    }

    @Override
    public Void visitMemberReference(MemberReferenceTree tree, Void nothing) {
        return not("method reference (rule 2)");
    }

    @Override
    public Void visitSynchronized(SynchronizedTree tree, Void nothing) {
        return not("synchronized (rule 6)");
    }

    @Override
    public Void visitAssert(AssertTree tree, Void nothing) {
        return not("assert (rule 6)");
    }

    private static Void not(String what) {
        Check.due("there is no " + what, false, true);
        return null;
    }

    // ---- how deep calls go

    /** How many calls stand open at once at most, this one too; what overrides a method is called by its name. */
    private int deep(ExecutableElement method, List<ExecutableElement> open) {
        if (open.contains(method)) {
            Check.due("no recursion (rule 8): " + open + " and " + method + " again", false, true);
            return 0;
        }
        open.add(method);
        int deepest = 0;
        for (ExecutableElement called : calls.getOrDefault(method, Set.of())) {
            for (ExecutableElement meant : methods) {
                TypeElement owner = (TypeElement) meant.getEnclosingElement();
                if (meant.equals(called) || elements.overrides(meant, called, owner)) {
                    deepest = Math.max(deepest, deep(meant, open));
                }
            }
        }
        open.remove(open.size() - 1);
        return deepest + 1;
    }
}
