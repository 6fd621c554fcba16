import com.sun.source.tree.AssertTree;
import com.sun.source.tree.BinaryTree;
import com.sun.source.tree.ClassTree;
import com.sun.source.tree.CompilationUnitTree;
import com.sun.source.tree.ExpressionTree;
import com.sun.source.tree.IdentifierTree;
import com.sun.source.tree.ImportTree;
import com.sun.source.tree.LambdaExpressionTree;
import com.sun.source.tree.LiteralTree;
import com.sun.source.tree.MemberReferenceTree;
import com.sun.source.tree.MemberSelectTree;
import com.sun.source.tree.MethodInvocationTree;
import com.sun.source.tree.MethodTree;
import com.sun.source.tree.NewArrayTree;
import com.sun.source.tree.NewClassTree;
import com.sun.source.tree.PackageTree;
import com.sun.source.tree.SynchronizedTree;
import com.sun.source.tree.ThrowTree;
import com.sun.source.tree.Tree;
import com.sun.source.tree.TryTree;
import com.sun.source.tree.VariableTree;
import com.sun.source.util.JavacTask;
import com.sun.source.util.TreePath;
import com.sun.source.util.TreePathScanner;
import com.sun.source.util.Trees;
import java.io.IOException;
import java.util.ArrayList;
import java.util.HashMap;
import java.util.HashSet;
import java.util.List;
import java.util.Map;
import java.util.Set;
import javax.lang.model.element.Element;
import javax.lang.model.element.ElementKind;
import javax.lang.model.element.ExecutableElement;
import javax.lang.model.element.Modifier;
import javax.lang.model.element.TypeElement;
import javax.lang.model.type.ArrayType;
import javax.lang.model.type.DeclaredType;
import javax.lang.model.type.TypeKind;
import javax.lang.model.type.TypeMirror;
import javax.tools.JavaCompiler;
import javax.tools.StandardJavaFileManager;
import javax.tools.ToolProvider;

/**
 * The rules of LANGUAGE.md that can be seen in the source of the class, by their numbers. The class uses less of Java
 * than the rules leave it, and only what it uses is let through here.
 */
public final class LanguageTest extends TreePathScanner<Void, Void> {
    private static final String SOURCE = "src/main/java/TablePager.java";
    private static final Set<String> LIBRARY = Set.of("System.arraycopy", "Math.min", "Math.max");
    private static final Set<String> EXCEPTIONS =
            Set.of("IllegalStateException", "IllegalArgumentException", "IndexOutOfBoundsException");
    private static final Set<String> FOREIGN_TYPES = Set.of("System", "Math", "String", "IllegalStateException",
            "IllegalArgumentException", "IndexOutOfBoundsException");
    private static final int MOST_CLASSES = 12;
    private static final int MOST_FIELDS = 20;
    private static final int MOST_PARAMETERS = 7;
    private static final int MOST_LINES = 60;
    private static final int MOST_DEPTH = 8;

    private final Check check = new Check("LanguageTest");
    private final Trees trees;
    private final CompilationUnitTree unit;
    private final Map<Element, Set<Element>> calls = new HashMap<>();
    private final List<ExecutableElement> methods = new ArrayList<>();
    private int classes;

    private LanguageTest(Trees trees, CompilationUnitTree unit) {
        this.trees = trees;
        this.unit = unit;
    }

    public static void main(String[] args) throws IOException {
        JavaCompiler compiler = ToolProvider.getSystemJavaCompiler();
        try (StandardJavaFileManager files = compiler.getStandardFileManager(null, null, null)) {
            JavacTask task = (JavacTask) compiler.getTask(null, files, null,
                    List.of("--release", "17", "-proc:none"), null, files.getJavaFileObjects(SOURCE));
            CompilationUnitTree unit = task.parse().iterator().next();
            task.analyze();
            LanguageTest test = new LanguageTest(Trees.instance(task), unit);
            test.scan(unit, null);
            test.namesOfMethods();
            test.depthOfCalls();
            test.signs();
            test.numberOfClasses();
            test.check.finish();
        }
    }

    private void tell(int rule, Tree at, String fault) {
        long line = unit.getLineMap().getLineNumber(begin(at));
        check.tell("rule " + rule + ", line " + line + ": " + fault);
    }

    private long begin(Tree tree) {
        return trees.getSourcePositions().getStartPosition(unit, tree);
    }

    private Element element() {
        return trees.getElement(getCurrentPath());
    }

    // ---- classes and members

    @Override
    public Void visitPackage(PackageTree tree, Void v) {
        tell(1, tree, "a package line");
        return super.visitPackage(tree, v);
    }

    @Override
    public Void visitImport(ImportTree tree, Void v) {
        tell(4, tree, "an import");
        return super.visitImport(tree, v);
    }

    @Override
    public Void visitClass(ClassTree tree, Void v) {
        classes++;
        Element here = element();
        Set<Modifier> of = here.getModifiers();
        boolean isFace = getCurrentPath().getParentPath().getLeaf() == unit;
        if (isFace && !of.equals(Set.of(Modifier.PUBLIC, Modifier.FINAL))) {
            tell(1, tree, "the class is not public and final");
        }
        if (!isFace && (!of.contains(Modifier.STATIC) || of.contains(Modifier.PUBLIC)
                || of.contains(Modifier.PROTECTED))) {
            tell(1, tree, "a class inside that is not static, or not private or package-visible");
        }
        int fields = 0;
        for (Element member : here.getEnclosedElements()) {
            boolean isField = member.getKind() == ElementKind.FIELD;
            fields += isField && !member.getModifiers().contains(Modifier.STATIC) ? 1 : 0;
        }
        if (fields > MOST_FIELDS) {
            tell(11, tree, "a class of " + fields + " fields");
        }
        return super.visitClass(tree, v);
    }

    @Override
    public Void visitMethod(MethodTree tree, Void v) {
        ExecutableElement here = (ExecutableElement) element();
        methods.add(here);
        Set<Modifier> of = here.getModifiers();
        if (!of.contains(Modifier.PRIVATE) && !(of.contains(Modifier.PUBLIC) && isOfFace(here))) {
            tell(1, tree, tree.getName() + " is neither private nor of the face");
        }
        if (of.contains(Modifier.SYNCHRONIZED)) {
            tell(6, tree, "synchronized");
        }
        if (tree.getParameters().size() > MOST_PARAMETERS) {
            tell(11, tree, tree.getName() + " takes " + tree.getParameters().size() + " parameters");
        }
        long last = unit.getLineMap().getLineNumber(trees.getSourcePositions().getEndPosition(unit, tree));
        long lines = last - unit.getLineMap().getLineNumber(begin(tree)) + 1;
        if (lines > MOST_LINES) {
            tell(11, tree, tree.getName() + " has " + lines + " lines");
        }
        allowType(here.getReturnType(), tree);
        return super.visitMethod(tree, v);
    }

    private static boolean isOfFace(Element member) {
        return member.getEnclosingElement().getEnclosingElement().getKind() == ElementKind.PACKAGE;
    }

    @Override
    public Void visitVariable(VariableTree tree, Void v) {
        Element here = element();
        Set<Modifier> of = here.getModifiers();
        boolean isField = here.getKind() == ElementKind.FIELD;
        if (isField && !of.contains(Modifier.PRIVATE) && !tree.getName().contentEquals("NONE")) {
            tell(1, tree, tree.getName() + " is not private");
        }
        if (isField && of.contains(Modifier.STATIC) && !isConstant(tree, of)) {
            tell(5, tree, tree.getName() + " is static and no constant");
        }
        allowType(here.asType(), tree);
        return super.visitVariable(tree, v);
    }

    private boolean isConstant(VariableTree tree, Set<Modifier> of) {
        TypeKind kind = trees.getTypeMirror(new TreePath(getCurrentPath(), tree.getType())).getKind();
        return of.contains(Modifier.FINAL) && (kind == TypeKind.INT || kind == TypeKind.LONG);
    }

    /** Whole numbers, char, boolean, own classes, and arrays of one dimension of these. */
    private void allowType(TypeMirror type, Tree at) {
        TypeMirror plain = type.getKind() == TypeKind.ARRAY ? ((ArrayType) type).getComponentType() : type;
        boolean isOwn = plain instanceof DeclaredType && isInFile(((DeclaredType) plain).asElement());
        if (!isOwn && !Set.of(TypeKind.INT, TypeKind.LONG, TypeKind.CHAR, TypeKind.BOOLEAN, TypeKind.VOID)
                .contains(plain.getKind())) {
            tell(3, at, "the type " + type);
        }
    }

    // ---- what is used

    @Override
    public Void visitIdentifier(IdentifierTree tree, Void v) {
        allowElement(element(), tree);
        return super.visitIdentifier(tree, v);
    }

    @Override
    public Void visitMemberSelect(MemberSelectTree tree, Void v) {
        allowElement(element(), tree);
        return super.visitMemberSelect(tree, v);
    }

    private void allowElement(Element used, Tree at) {
        if (used instanceof TypeElement && !isInFile(used)
                && !FOREIGN_TYPES.contains(used.getSimpleName().toString())) {
            tell(4, at, used + " is used");
        }
    }

    private static boolean isInFile(Element used) {
        Element outermost = used;
        while (outermost.getEnclosingElement().getKind() != ElementKind.PACKAGE) {
            outermost = outermost.getEnclosingElement();
        }
        return outermost.getSimpleName().contentEquals("TablePager");
    }

    @Override
    public Void visitMethodInvocation(MethodInvocationTree tree, Void v) {
        Element called = element();
        String name = called.getEnclosingElement().getSimpleName() + "." + called.getSimpleName();
        boolean isSuper = called.getKind() == ElementKind.CONSTRUCTOR && name.startsWith("Object.");
        if (isInFile(called)) {
            call(called);
        } else if (!isSuper && !LIBRARY.contains(name)) {
            tell(4, tree, name + " is called");
        }
        return super.visitMethodInvocation(tree, v);
    }

    private void call(Element called) {
        Element caller = around();
        if (caller != null) {
            calls.computeIfAbsent(caller, c -> new HashSet<>()).add(called);
        }
    }

    /** The method or constructor that the current place is in; null in a field's initialiser. */
    private Element around() {
        for (TreePath path = getCurrentPath(); path != null; path = path.getParentPath()) {
            if (path.getLeaf() instanceof MethodTree) {
                return trees.getElement(path);
            }
        }
        return null;
    }

    private boolean isInConstructor() {
        Element around = around();
        return around == null || around.getKind() == ElementKind.CONSTRUCTOR;
    }

    // ---- exceptions, and what is made

    @Override
    public Void visitThrow(ThrowTree tree, Void v) {
        ExpressionTree thrown = tree.getExpression();
        if (isInConstructor()) {
            tell(6, tree, "a throw in a constructor");
        }
        if (!(thrown instanceof NewClassTree) || !isPlainException((NewClassTree) thrown)) {
            tell(6, tree, "what is thrown is no new exception with a written text");
        }
        return super.visitThrow(tree, v);
    }

    private static boolean isPlainException(NewClassTree made) {
        List<? extends ExpressionTree> texts = made.getArguments();
        return EXCEPTIONS.contains(made.getIdentifier().toString()) && made.getClassBody() == null
                && (texts.isEmpty() || texts.size() == 1 && texts.get(0) instanceof LiteralTree);
    }

    @Override
    public Void visitNewClass(NewClassTree tree, Void v) {
        boolean isThrown = getCurrentPath().getParentPath().getLeaf() instanceof ThrowTree;
        if (!isThrown && !isInConstructor()) {
            tell(12, tree, "an object is made outside a constructor");
        }
        return super.visitNewClass(tree, v);
    }

    @Override
    public Void visitNewArray(NewArrayTree tree, Void v) {
        if (!isInConstructor()) {
            tell(12, tree, "an array is made outside a constructor");
        }
        if (tree.getDimensions().size() != 1) {
            tell(3, tree, "an array that is not of one dimension with a length");
        }
        return super.visitNewArray(tree, v);
    }

    // ---- what is not used at all

    @Override
    public Void visitTry(TryTree tree, Void v) {
        tell(6, tree, "the class has no need of a try");
        return super.visitTry(tree, v);
    }

    @Override
    public Void visitAssert(AssertTree tree, Void v) {
        tell(6, tree, "assert");
        return super.visitAssert(tree, v);
    }

    @Override
    public Void visitSynchronized(SynchronizedTree tree, Void v) {
        tell(6, tree, "synchronized");
        return super.visitSynchronized(tree, v);
    }

    @Override
    public Void visitLambdaExpression(LambdaExpressionTree tree, Void v) {
        tell(2, tree, "a lambda");
        return super.visitLambdaExpression(tree, v);
    }

    @Override
    public Void visitMemberReference(MemberReferenceTree tree, Void v) {
        tell(2, tree, "a method reference");
        return super.visitMemberReference(tree, v);
    }

    @Override
    public Void visitBinary(BinaryTree tree, Void v) {
        if (!isOfNumbers(tree)) {
            tell(10, tree, "texts or objects are joined or compared");
        }
        return super.visitBinary(tree, v);
    }

    private boolean isOfNumbers(BinaryTree tree) {
        TypeMirror left = trees.getTypeMirror(new TreePath(getCurrentPath(), tree.getLeftOperand()));
        TypeMirror right = trees.getTypeMirror(new TreePath(getCurrentPath(), tree.getRightOperand()));
        return left.getKind().isPrimitive() && right.getKind().isPrimitive();
    }

    // ---- the file as a whole

    /** Rule 1: no private method bears the name of a public one. */
    private void namesOfMethods() {
        Set<String> face = new HashSet<>();
        for (ExecutableElement method : methods) {
            if (method.getModifiers().contains(Modifier.PUBLIC) && method.getKind() == ElementKind.METHOD) {
                face.add(method.getSimpleName().toString());
            }
        }
        for (ExecutableElement method : methods) {
            String name = method.getSimpleName().toString();
            if (!method.getModifiers().contains(Modifier.PUBLIC) && face.contains(name)) {
                check.tell("rule 1: a private method bears the name " + name);
            }
            if (Set.of("equals", "hashCode", "toString").contains(name)) {
                check.tell("rule 6: " + name + " of an object of its own");
            }
        }
    }

    private void numberOfClasses() {
        if (classes > MOST_CLASSES) {
            check.tell("rule 11: the file has " + classes + " classes");
        }
    }

    /** Rules 8 and 11: nothing calls itself, and the calls do not go too deep. */
    private void depthOfCalls() {
        for (ExecutableElement method : methods) {
            int depth = depth(method, new HashSet<>());
            if (depth > MOST_DEPTH) {
                check.tell("rule 11: the calls of " + method + " go " + depth + " deep");
            }
        }
    }

    private int depth(Element method, Set<Element> open) {
        if (!open.add(method)) {
            check.tell("rule 8: " + method + " calls itself");
            return 0;
        }
        int deepest = 0;
        for (Element called : calls.getOrDefault(method, Set.of())) {
            deepest = Math.max(deepest, depth(called, open));
        }
        open.remove(method);
        return deepest + 1;
    }

    /** Rule 4: written texts have the signs 1 to 127; the whole file is held to that. */
    private void signs() throws IOException {
        CharSequence source = unit.getSourceFile().getCharContent(true);
        for (int i = 0; i < source.length(); i++) {
            if (source.charAt(i) < 1 || source.charAt(i) > 127) {
                check.tell("rule 4: the sign " + (int) source.charAt(i) + " in the source");
                return;
            }
        }
    }
}
