import com.sun.source.tree.*;
import com.sun.source.util.JavacTask;
import com.sun.source.util.SourcePositions;
import com.sun.source.util.TreePath;
import com.sun.source.util.TreePathScanner;
import com.sun.source.util.Trees;
import java.io.File;
import java.util.Arrays;
import java.util.HashSet;
import java.util.List;
import java.util.Set;
import javax.lang.model.element.Element;
import javax.lang.model.element.Modifier;
import javax.lang.model.type.TypeMirror;
import javax.tools.JavaCompiler;
import javax.tools.StandardJavaFileManager;
import javax.tools.ToolProvider;

/** The rules of LANGUAGE.md that can be seen in the compiler's tree of the one file. */
public final class LanguageTest extends TreePathScanner<Void, Void> {
    private static final Set<String> LIBRARY = new HashSet<>(Arrays.asList(
            "java.util.Arrays.fill", "java.util.Arrays.copyOf", "java.util.Arrays.copyOfRange",
            "java.lang.System.arraycopy", "java.lang.Math.min", "java.lang.Math.max", "java.lang.Math.abs",
            "java.lang.Integer.bitCount", "java.lang.String.indexOf", "java.lang.String.length",
            "java.lang.String.charAt"));

    private final CompilationUnitTree unit;
    private final SourcePositions positions;
    private final Trees trees;
    private final Set<String> face = new HashSet<>();
    private int wrong;
    private int classes;

    private LanguageTest(CompilationUnitTree unit, Trees trees) {
        this.unit = unit;
        this.trees = trees;
        this.positions = trees.getSourcePositions();
    }

    private long line(Tree t, boolean end) {
        return unit.getLineMap().getLineNumber(
                end ? positions.getEndPosition(unit, t) : positions.getStartPosition(unit, t));
    }

    private void no(Tree t, String why) {
        wrong++;
        System.out.println("line " + line(t, false) + ": " + why);
    }

    @Override
    public Void visitThrow(ThrowTree t, Void v) {
        no(t, "throw");
        return super.visitThrow(t, v);
    }

    @Override
    public Void visitTry(TryTree t, Void v) {
        no(t, "try");
        return super.visitTry(t, v);
    }

    @Override
    public Void visitSynchronized(SynchronizedTree t, Void v) {
        no(t, "synchronized");
        return super.visitSynchronized(t, v);
    }

    @Override
    public Void visitAssert(AssertTree t, Void v) {
        no(t, "assert");
        return super.visitAssert(t, v);
    }

    @Override
    public Void visitLambdaExpression(LambdaExpressionTree t, Void v) {
        no(t, "lambda");
        return super.visitLambdaExpression(t, v);
    }

    @Override
    public Void visitMemberReference(MemberReferenceTree t, Void v) {
        no(t, "method reference");
        return super.visitMemberReference(t, v);
    }

    @Override
    public Void visitImport(ImportTree t, Void v) {
        if (!t.getQualifiedIdentifier().toString().equals("java.util.Arrays")) {
            no(t, "import of " + t.getQualifiedIdentifier());
        }
        return null;
    }

    private boolean inMethod() {
        for (TreePath p = getCurrentPath(); p != null; p = p.getParentPath()) {
            if (p.getLeaf() instanceof MethodTree) {
                return !((MethodTree) p.getLeaf()).getName().contentEquals("<init>");
            }
        }
        return false;
    }

    // the room is small: nothing is made but by fields and constructors
    @Override
    public Void visitNewArray(NewArrayTree t, Void v) {
        if (inMethod()) {
            no(t, "an array is made in a method");
        }
        return super.visitNewArray(t, v);
    }

    @Override
    public Void visitNewClass(NewClassTree t, Void v) {
        if (inMethod() || t.getClassBody() != null) {
            no(t, "an object is made in a method, or has a body");
        }
        return super.visitNewClass(t, v);
    }

    @Override
    public Void visitWhileLoop(WhileLoopTree t, Void v) {
        no(t, "while without a counter");
        return super.visitWhileLoop(t, v);
    }

    @Override
    public Void visitForLoop(ForLoopTree t, Void v) {
        if (t.getCondition() == null || t.getUpdate().size() != 1 || t.getInitializer().size() != 1) {
            no(t, "for without a counter against a bound");
        }
        return super.visitForLoop(t, v);
    }

    @Override
    public Void visitBinary(BinaryTree t, Void v) {
        TypeMirror type = trees.getTypeMirror(getCurrentPath());
        if (type != null && type.toString().equals("java.lang.String")) {
            no(t, "texts joined by +");
        }
        return super.visitBinary(t, v);
    }

    @Override
    public Void visitMethodInvocation(MethodInvocationTree t, Void v) {
        Element e = trees.getElement(new TreePath(getCurrentPath(), t.getMethodSelect()));
        String owner = e.getEnclosingElement().toString();
        if (owner.startsWith("java") && !e.getSimpleName().contentEquals("<init>")
                && !LIBRARY.contains(owner + "." + e.getSimpleName())) {
            no(t, "library: " + owner + "." + e.getSimpleName());
        }
        return super.visitMethodInvocation(t, v);
    }

    @Override
    public Void visitClass(ClassTree t, Void v) {
        classes++;
        int fields = 0;
        boolean outer = getCurrentPath().getParentPath().getLeaf() instanceof CompilationUnitTree;
        Set<Modifier> flags = t.getModifiers().getFlags();
        if (!outer && (!flags.contains(Modifier.STATIC) || flags.contains(Modifier.PUBLIC))) {
            no(t, "a class inside that is not static, or public");
        }
        for (Tree m : t.getMembers()) {
            if (m instanceof VariableTree) {
                Set<Modifier> f = ((VariableTree) m).getModifiers().getFlags();
                if (f.contains(Modifier.STATIC) && !f.contains(Modifier.FINAL)) {
                    no(m, "static state");
                }
                fields += f.contains(Modifier.STATIC) ? 0 : 1;
            }
            if (m instanceof BlockTree) {
                no(m, "initialiser block");
            }
        }
        if (fields > 20) {
            no(t, fields + " fields");
        }
        return super.visitClass(t, v);
    }

    @Override
    public Void visitMethod(MethodTree t, Void v) {
        boolean open = t.getModifiers().getFlags().contains(Modifier.PUBLIC);
        String name = t.getName().toString();
        if (line(t, true) - line(t, false) >= 60) {
            no(t, "a long method: " + name);
        }
        if (t.getParameters().size() > 7) {
            no(t, "more than seven parameters");
        }
        if (!open && face.contains(name)) {
            no(t, "bears the name of a public one: " + name);
        }
        return super.visitMethod(t, v);
    }

    public static void main(String[] args) throws Exception {
        File file = new File(args.length > 0 ? args[0] : "src/main/java/TelegramFeelings.java");
        JavaCompiler compiler = ToolProvider.getSystemJavaCompiler();
        StandardJavaFileManager files = compiler.getStandardFileManager(null, null, null);
        JavacTask task = (JavacTask) compiler.getTask(null, files, null,
                List.of("--release", "17", "-proc:none"), null, files.getJavaFileObjects(file));
        CompilationUnitTree unit = task.parse().iterator().next();
        task.analyze();
        LanguageTest test = new LanguageTest(unit, Trees.instance(task));
        for (java.lang.reflect.Method m : TelegramFeelings.class.getDeclaredMethods()) {
            if (java.lang.reflect.Modifier.isPublic(m.getModifiers())) {
                test.face.add(m.getName());
            }
        }
        test.scan(unit, null);
        if (unit.getPackageName() != null || unit.getTypeDecls().size() != 1) {
            test.no(unit, "a package, or more than one class");
        }
        if (test.classes > 12) {
            test.no(unit, test.classes + " classes");
        }
        System.out.println(test.classes + " classes, " + test.wrong + " faults of language");
        if (test.wrong != 0) {
            System.exit(1);
        }
    }
}
