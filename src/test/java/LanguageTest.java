import com.sun.source.tree.AssertTree;
import com.sun.source.tree.BinaryTree;
import com.sun.source.tree.ClassTree;
import com.sun.source.tree.CompilationUnitTree;
import com.sun.source.tree.DoWhileLoopTree;
import com.sun.source.tree.ForLoopTree;
import com.sun.source.tree.LambdaExpressionTree;
import com.sun.source.tree.LineMap;
import com.sun.source.tree.MemberReferenceTree;
import com.sun.source.tree.MethodInvocationTree;
import com.sun.source.tree.MethodTree;
import com.sun.source.tree.NewArrayTree;
import com.sun.source.tree.NewClassTree;
import com.sun.source.tree.SynchronizedTree;
import com.sun.source.tree.ThrowTree;
import com.sun.source.tree.Tree;
import com.sun.source.tree.TryTree;
import com.sun.source.tree.VariableTree;
import com.sun.source.tree.WhileLoopTree;
import com.sun.source.util.JavacTask;
import com.sun.source.util.SourcePositions;
import com.sun.source.util.TreePath;
import com.sun.source.util.TreePathScanner;
import com.sun.source.util.Trees;
import java.io.IOException;
import java.nio.file.Files;
import java.nio.file.Path;
import java.util.List;
import java.util.Map;
import java.util.Set;
import java.util.TreeMap;
import java.util.TreeSet;
import javax.lang.model.element.Element;
import javax.lang.model.element.ElementKind;
import javax.lang.model.element.ExecutableElement;
import javax.lang.model.element.Modifier;
import javax.lang.model.element.TypeElement;
import javax.lang.model.type.ArrayType;
import javax.lang.model.type.TypeKind;
import javax.lang.model.type.TypeMirror;
import javax.tools.JavaCompiler;
import javax.tools.StandardJavaFileManager;
import javax.tools.ToolProvider;

/** The rules of LANGUAGE.md, as far as they can be seen in the source as the compiler reads it. */
public final class LanguageTest extends TreePathScanner<Void, Void> {
    private static final Due DUE = new Due();
    private static final Path SOURCE = Path.of("src/main/java/AskedCamp.java");
    private static final int CALLS_DEEP = 8;
    private static final Set<String> LIBRARY = Set.of("String.length", "String.charAt", "Long.bitCount",
            "Integer.bitCount", "Math.min", "Math.max", "Math.abs", "System.arraycopy", "Object.<init>");
    private static final Set<String> CONSTANTS = Set.of("int", "long", "boolean", "char", "java.lang.String", "int[]",
            "long[]", "char[]", "byte[]");

    private final Trees trees;
    private final CompilationUnitTree unit;
    /** Of each method which ones it calls, the library's, too. */
    private final Map<String, Set<String>> calls = new TreeMap<>();
    private final Set<String> face = new TreeSet<>();
    private final Set<String> staticOnes = new TreeSet<>();
    private int classes;

    private LanguageTest(Trees trees, CompilationUnitTree unit) {
        this.trees = trees;
        this.unit = unit;
    }

    public static void main(String[] args) throws IOException {
        JavaCompiler compiler = ToolProvider.getSystemJavaCompiler();
        try (StandardJavaFileManager files = compiler.getStandardFileManager(null, null, null)) {
            JavacTask task = (JavacTask) compiler.getTask(null, files, null, List.of("-proc:none"), null,
                    files.getJavaFileObjects(SOURCE));
            CompilationUnitTree unit = task.parse().iterator().next();
            task.analyze();
            LanguageTest test = new LanguageTest(Trees.instance(task), unit);
            test.scan(unit, null);
            test.wholeFile();
        }
        signs();
        DUE.close();
    }

    private void no(String rule, Tree tree) {
        long line = unit.getLineMap().getLineNumber(trees.getSourcePositions().getStartPosition(unit, tree));
        DUE.due("rule " + rule + ", line " + line, 1, 0);
    }

    private void keep(boolean kept, String rule, Tree tree) {
        if (!kept) {
            no(rule, tree);
        }
    }

    // ---- rules 1 and 2: the face, the classes

    @Override
    public Void visitCompilationUnit(CompilationUnitTree tree, Void none) {
        DUE.due("no package, no import", tree.getPackage() == null && tree.getImports().isEmpty() ? 1 : 0, 1);
        DUE.due("one class outside", tree.getTypeDecls().size(), 1);
        return super.visitCompilationUnit(tree, none);
    }

    @Override
    public Void visitClass(ClassTree tree, Void none) {
        classes++;
        Element element = trees.getElement(getCurrentPath());
        boolean outside = getCurrentPath().getParentPath().getLeaf() == unit;
        boolean member = getCurrentPath().getParentPath().getLeaf() instanceof ClassTree;
        keep(outside || member, "2: a class in a method", tree);
        keep(outside || element.getModifiers().contains(Modifier.STATIC), "2: a class inside that is not static", tree);
        keep(outside || !element.getModifiers().contains(Modifier.PUBLIC), "1: a class inside that is public", tree);
        int fields = 0;
        for (Element inside : element.getEnclosedElements()) {
            boolean isField = inside.getKind() == ElementKind.FIELD;
            fields += isField && !inside.getModifiers().contains(Modifier.STATIC) ? 1 : 0;
            boolean isClass = inside instanceof TypeElement;
            boolean open = inside.getModifiers().contains(Modifier.PUBLIC);
            if (outside && inside.getKind() == ElementKind.METHOD && open) {
                face.add(inside.getSimpleName().toString());
            }
            if (outside && !isClass && !open) {
                keep(inside.getModifiers().contains(Modifier.PRIVATE), "1: an open member " + inside, tree);
            }
        }
        keep(fields <= 20, "11: more than twenty fields", tree);
        return super.visitClass(tree, none);
    }

    // ---- rules 3 and 5: types, static fields

    @Override
    public Void visitVariable(VariableTree tree, Void none) {
        Element element = trees.getElement(getCurrentPath());
        keep(isAllowed(element.asType(), 0), "3: the type " + element.asType(), tree);
        if (element.getKind() == ElementKind.FIELD && element.getModifiers().contains(Modifier.STATIC)) {
            keep(element.getModifiers().contains(Modifier.FINAL), "5: a static field that is not final", tree);
            keep(CONSTANTS.contains(element.asType().toString()), "5: a static " + element.asType(), tree);
        }
        return super.visitVariable(tree, none);
    }

    private static boolean isAllowed(TypeMirror type, int dimensions) {
        if (type.getKind() == TypeKind.ARRAY) {
            return dimensions < 2 && isAllowed(((ArrayType) type).getComponentType(), dimensions + 1);
        }
        String name = type.toString();
        boolean own = name.startsWith("AskedCamp");
        return type.getKind().isPrimitive() || dimensions < 2 && own || dimensions == 0 && name.equals("java.lang.String");
    }

    // ---- rules 4 and 8: calls

    @Override
    public Void visitMethod(MethodTree tree, Void none) {
        ExecutableElement element = (ExecutableElement) trees.getElement(getCurrentPath());
        String name = nameOf(element);
        calls.computeIfAbsent(name, n -> new TreeSet<>());
        if (element.getModifiers().contains(Modifier.STATIC)) {
            staticOnes.add(name);
        }
        keep(tree.getParameters().size() <= 7, "11: more than seven parameters", tree);
        SourcePositions positions = trees.getSourcePositions();
        LineMap lines = unit.getLineMap();
        long length = lines.getLineNumber(Math.max(0, positions.getEndPosition(unit, tree)))
                - lines.getLineNumber(positions.getStartPosition(unit, tree)) + 1;
        keep(length <= 60, "11: " + name + " has " + length + " lines", tree);
        return super.visitMethod(tree, none);
    }

    private static String nameOf(Element element) {
        return element.getEnclosingElement().getSimpleName() + "." + element.getSimpleName();
    }

    private void called(Element element, Tree tree) {
        boolean own = element.getEnclosingElement().toString().startsWith("AskedCamp");
        keep(own || LIBRARY.contains(nameOf(element)), "4: " + nameOf(element), tree);
        TreePath path = getCurrentPath();
        while (path != null && !(path.getLeaf() instanceof MethodTree)) {
            path = path.getParentPath();
        }
        if (path != null) {
            calls.computeIfAbsent(nameOf(trees.getElement(path)), n -> new TreeSet<>()).add(nameOf(element));
        }
    }

    @Override
    public Void visitMethodInvocation(MethodInvocationTree tree, Void none) {
        called(trees.getElement(new TreePath(getCurrentPath(), tree.getMethodSelect())), tree);
        return super.visitMethodInvocation(tree, none);
    }

    @Override
    public Void visitNewClass(NewClassTree tree, Void none) {
        keep(tree.getClassBody() == null, "2: a class without a name", tree);
        called(trees.getElement(getCurrentPath()), tree);
        keep(isInConstructor(), "12: what is made outside of a constructor", tree);
        return super.visitNewClass(tree, none);
    }

    @Override
    public Void visitNewArray(NewArrayTree tree, Void none) {
        boolean writtenOut = tree.getInitializers() != null;
        keep(writtenOut || isInConstructor(), "12: a row made outside of a constructor", tree);
        return super.visitNewArray(tree, none);
    }

    private boolean isInConstructor() {
        TreePath path = getCurrentPath();
        while (path != null && !(path.getLeaf() instanceof MethodTree)) {
            path = path.getParentPath();
        }
        return path != null && trees.getElement(path).getKind() == ElementKind.CONSTRUCTOR;
    }

    // ---- rules 2, 6, 9: what may not stand there

    @Override
    public Void visitLambdaExpression(LambdaExpressionTree tree, Void none) {
        no("2: a lambda", tree);
        return null;
    }

    @Override
    public Void visitMemberReference(MemberReferenceTree tree, Void none) {
        no("2: a method reference", tree);
        return null;
    }

    @Override
    public Void visitThrow(ThrowTree tree, Void none) {
        no("6: throw", tree);
        return null;
    }

    @Override
    public Void visitTry(TryTree tree, Void none) {
        no("6: try", tree);
        return null;
    }

    @Override
    public Void visitSynchronized(SynchronizedTree tree, Void none) {
        no("6: synchronized", tree);
        return null;
    }

    @Override
    public Void visitAssert(AssertTree tree, Void none) {
        no("6: assert", tree);
        return null;
    }

    @Override
    public Void visitBinary(BinaryTree tree, Void none) {
        if (tree.getKind() == Tree.Kind.EQUAL_TO || tree.getKind() == Tree.Kind.NOT_EQUAL_TO
                || tree.getKind() == Tree.Kind.PLUS) {
            TypeMirror left = trees.getTypeMirror(new TreePath(getCurrentPath(), tree.getLeftOperand()));
            TypeMirror right = trees.getTypeMirror(new TreePath(getCurrentPath(), tree.getRightOperand()));
            keep(left.getKind().isPrimitive() && right.getKind().isPrimitive(), "6, 10: " + tree, tree);
        }
        return super.visitBinary(tree, none);
    }

    @Override
    public Void visitForLoop(ForLoopTree tree, Void none) {
        keep(tree.getCondition() != null && !tree.getUpdate().isEmpty(), "9: a loop without an end", tree);
        return super.visitForLoop(tree, none);
    }

    @Override
    public Void visitWhileLoop(WhileLoopTree tree, Void none) {
        String condition = tree.getCondition().toString();
        keep(condition.contains("<"), "9: a loop without a counter, " + condition, tree);
        return super.visitWhileLoop(tree, none);
    }

    @Override
    public Void visitDoWhileLoop(DoWhileLoopTree tree, Void none) {
        no("9: a do that this test can't look into", tree);
        return null;
    }

    // ---- the whole file

    private void wholeFile() {
        DUE.due("rule 11: twelve classes at most", Math.max(classes, 12), 12);
        DUE.due("methods of the face", face.size(), 33);
        for (String name : calls.keySet()) {
            boolean inside = !name.startsWith("AskedCamp.");
            String last = name.substring(name.indexOf('.') + 1);
            DUE.due("rule 1: " + name + " bears a name of the face", inside && face.contains(last) ? 1 : 0, 0);
            if (calls.get(name).contains(name)) {
                DUE.due("rule 8: " + name + " calls itself and is static", staticOnes.contains(name) ? 1 : 0, 1);
            }
            int deep = depth(name, 0);
            DUE.due("rule 11: " + name + " goes deeper than eight", Math.max(deep, CALLS_DEEP), CALLS_DEEP);
        }
    }

    /** How many methods stand open at once at most, from this one on; itself once only. */
    private int depth(String name, int above) {
        int deepest = 0;
        // methods that call one another would never come to an end here
        if (above <= CALLS_DEEP) {
            for (String next : calls.getOrDefault(name, Set.of())) {
                if (!next.equals(name)) {
                    deepest = Math.max(deepest, depth(next, above + 1));
                }
            }
        }
        return deepest + 1;
    }

    private static void signs() throws IOException {
        for (byte sign : Files.readAllBytes(SOURCE)) {
            if (sign < 1) {
                DUE.due("rule 4: a sign beyond 127", sign, 0);
                return;
            }
        }
    }
}
