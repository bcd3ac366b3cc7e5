import com.sun.source.tree.AssertTree;
import com.sun.source.tree.BinaryTree;
import com.sun.source.tree.CatchTree;
import com.sun.source.tree.ClassTree;
import com.sun.source.tree.CompilationUnitTree;
import com.sun.source.tree.LambdaExpressionTree;
import com.sun.source.tree.MemberReferenceTree;
import com.sun.source.tree.MethodInvocationTree;
import com.sun.source.tree.MethodTree;
import com.sun.source.tree.NewClassTree;
import com.sun.source.tree.SynchronizedTree;
import com.sun.source.tree.ThrowTree;
import com.sun.source.tree.Tree;
import com.sun.source.tree.TryTree;
import com.sun.source.util.JavacTask;
import com.sun.source.util.TreePath;
import com.sun.source.util.TreePathScanner;
import com.sun.source.util.Trees;
import java.io.IOException;
import java.lang.reflect.Constructor;
import java.lang.reflect.Field;
import java.lang.reflect.Method;
import java.lang.reflect.Modifier;
import java.nio.file.Path;
import java.util.ArrayList;
import java.util.HashMap;
import java.util.LinkedHashSet;
import java.util.List;
import java.util.Map;
import java.util.Set;
import java.util.TreeSet;
import javax.lang.model.element.Element;
import javax.lang.model.type.TypeKind;
import javax.lang.model.type.TypeMirror;
import javax.tools.JavaCompiler;
import javax.tools.StandardJavaFileManager;
import javax.tools.ToolProvider;

/** Rules of LANGUAGE.md that can be seen in the source or in the compiled class. */
public final class LanguageTest extends TreePathScanner<Void, Void> {
    private static final Path SOURCE = Path.of("src/main/java/FarthestPays.java");
    private static final int MOST_DEEP = 8, MOST_LINES = 60, MOST_PARAMETERS = 7, MOST_CLASSES = 12, MOST_FIELDS = 20;
    private static final Set<String> LIBRARY = Set.of("java.lang.Math.abs", "java.lang.Math.min", "java.lang.Math.max",
        "java.lang.Integer.bitCount", "java.lang.System.arraycopy");
    private static final String[] FACE = {
        "int weight(int,int)", "int guest(int)", "int slip(int,int)", "int write(int)", "int told(int,int)",
        "int rule(int,int)", "int type(long,int)", "int supper()", "int guests()", "int count(int)", "int pay(int)",
        "int pays(int,int,int)", "long mean(int,int)", "int best(int)", "int still()", "int turns(int)",
        "int league(int,int,int,int)", "int shun(int,int,int)", "int host(int,int)", "int choice(int)",
        "int night(int)", "int knew()", "int leagues(int,int)", "int forget()", "int image()", "int restore()",
        "long mixed(int,int,int,int,int,int)", "int sheet(int,int,int)", "int drop(int)", "int item(int,int,int,long)",
        "int film(int,int,int)"};
    private static final Set<String> CONSTANTS =
        Set.of("BAD", "NOT", "FULL", "NONE", "NULL", "CAST", "INDEX", "SIZE");

    private final Trees trees;
    private final CompilationUnitTree unit;
    private final Map<String, Set<String>> calls = new HashMap<>();
    private String method = "";
    private int classes = 0;

    private LanguageTest(Trees trees, CompilationUnitTree unit) {
        this.trees = trees;
        this.unit = unit;
    }

    public static void main(String[] args) throws IOException {
        JavaCompiler compiler = ToolProvider.getSystemJavaCompiler();
        try (StandardJavaFileManager files = compiler.getStandardFileManager(null, null, null)) {
            JavacTask task = (JavacTask) compiler.getTask(null, files, null, List.of("-proc:none"), null,
                files.getJavaFileObjects(SOURCE));
            CompilationUnitTree unit = task.parse().iterator().next();
            task.analyze();
            LanguageTest test = new LanguageTest(Trees.instance(task), unit);
            Due.due("rule 4, imports", unit.getImports().size(), 0);
            test.scan(unit, null);
            Due.due("rule 11, classes", test.classes <= MOST_CLASSES ? 0 : test.classes, 0);
            test.depths();
        }
        face();
        Due.finish("LanguageTest");
    }

    private void never(String rule, Tree tree) {
        long line = unit.getLineMap().getLineNumber(trees.getSourcePositions().getStartPosition(unit, tree));
        Due.due(rule + " in line " + line, 1, 0);
    }

    private void atMost(String what, long is, long most) {
        Due.due(what + " is " + is + ", at most " + most, is <= most ? 0 : 1, 0);
    }

    @Override
    public Void visitThrow(ThrowTree tree, Void v) {
        never("rule 6, throw", tree);
        return super.visitThrow(tree, v);
    }

    @Override
    public Void visitTry(TryTree tree, Void v) {
        never("rule 6, try", tree);
        return super.visitTry(tree, v);
    }

    @Override
    public Void visitCatch(CatchTree tree, Void v) {
        never("rule 6, catch", tree);
        return super.visitCatch(tree, v);
    }

    @Override
    public Void visitSynchronized(SynchronizedTree tree, Void v) {
        never("rule 6, synchronized", tree);
        return super.visitSynchronized(tree, v);
    }

    @Override
    public Void visitAssert(AssertTree tree, Void v) {
        never("rule 6, assert", tree);
        return super.visitAssert(tree, v);
    }

    @Override
    public Void visitLambdaExpression(LambdaExpressionTree tree, Void v) {
        never("rule 2, lambda", tree);
        return super.visitLambdaExpression(tree, v);
    }

    @Override
    public Void visitMemberReference(MemberReferenceTree tree, Void v) {
        never("rule 2, method reference", tree);
        return super.visitMemberReference(tree, v);
    }

    @Override
    public Void visitBinary(BinaryTree tree, Void v) {
        TypeMirror type = trees.getTypeMirror(getCurrentPath());
        if (tree.getKind() == Tree.Kind.PLUS && type != null && type.getKind() == TypeKind.DECLARED) {
            never("rule 10, + of texts", tree);
        }
        return super.visitBinary(tree, v);
    }

    @Override
    public Void visitClass(ClassTree tree, Void v) {
        classes++;
        boolean inside = classes > 1;
        if (inside && !tree.getModifiers().getFlags().contains(javax.lang.model.element.Modifier.STATIC)) {
            never("rule 2, a class inside that is not static", tree);
        }
        return super.visitClass(tree, v);
    }

    @Override
    public Void visitMethod(MethodTree tree, Void v) {
        String before = method;
        Element element = trees.getElement(getCurrentPath());
        method = nameOf(element);
        calls.putIfAbsent(method, new LinkedHashSet<>());
        long from = unit.getLineMap().getLineNumber(trees.getSourcePositions().getStartPosition(unit, tree));
        long to = unit.getLineMap().getLineNumber(trees.getSourcePositions().getEndPosition(unit, tree));
        atMost("rule 11, lines of " + method, to - from + 1, MOST_LINES);
        atMost("rule 11, parameters of " + method, tree.getParameters().size(), MOST_PARAMETERS);
        if (Set.of("equals", "hashCode", "toString").contains(tree.getName().toString())) {
            never("rule 6, " + tree.getName(), tree);
        }
        super.visitMethod(tree, v);
        method = before;
        return null;
    }

    @Override
    public Void visitMethodInvocation(MethodInvocationTree tree, Void v) {
        Element element = trees.getElement(new TreePath(getCurrentPath(), tree.getMethodSelect()));
        String name = nameOf(element);
        calls.computeIfAbsent(method, m -> new LinkedHashSet<>()).add(name);
        if (name.startsWith("java.")) {
            String plain = name.substring(0, name.indexOf('('));
            boolean ofObject = plain.equals("java.lang.Object.<init>");
            Due.due("rule 4, " + plain, ofObject || LIBRARY.contains(plain) ? 0 : 1, 0);
        }
        return super.visitMethodInvocation(tree, v);
    }

    @Override
    public Void visitNewClass(NewClassTree tree, Void v) {
        if (tree.getClassBody() != null) {
            never("rule 2, a class without a name", tree);
        }
        calls.computeIfAbsent(method, m -> new LinkedHashSet<>()).add(nameOf(trees.getElement(getCurrentPath())));
        return super.visitNewClass(tree, v);
    }

    private static String nameOf(Element element) {
        return element.getEnclosingElement() + "." + element.getSimpleName() + element.asType();
    }

    private void depths() {
        for (String name : new TreeSet<>(calls.keySet())) {
            atMost("rule 11, calls from " + name, depth(name, new ArrayList<>()), MOST_DEEP);
        }
    }

    /** How many calls stand open at once, this one and those of the library, too. */
    private int depth(String name, List<String> open) {
        if (open.contains(name)) {
            Due.due("rule 8, recursion " + open + " " + name, 1, 0);
            return 0;
        }
        open.add(name);
        int deepest = 0;
        for (String next : calls.getOrDefault(name, Set.of())) {
            deepest = Math.max(deepest, depth(next, open));
        }
        open.remove(name);
        return deepest + 1;
    }

    private static void face() {
        Set<String> want = new TreeSet<>(List.of(FACE));
        Set<String> got = new TreeSet<>();
        Set<String> publicNames = new TreeSet<>();
        Class<?> type = FarthestPays.class;
        for (Method m : type.getDeclaredMethods()) {
            if (Modifier.isPublic(m.getModifiers())) {
                got.add(signature(m));
                publicNames.add(m.getName());
            }
        }
        Due.due("rule 1, the face " + got, got.equals(want) ? 0 : 1, 0);
        for (Method m : type.getDeclaredMethods()) {
            if (!Modifier.isPublic(m.getModifiers())) {
                Due.due("rule 1, private " + m, Modifier.isPrivate(m.getModifiers()) ? 0 : 1, 0);
                Due.due("rule 1, named as a public one " + m, publicNames.contains(m.getName()) ? 1 : 0, 0);
            }
        }
        Constructor<?>[] constructors = type.getDeclaredConstructors();
        Due.due("rule 1, one constructor", constructors.length, 1);
        Due.due("rule 1, it is public", constructors[0].getModifiers(), Modifier.PUBLIC);
        Due.due("rule 1, it takes nothing", constructors[0].getParameterCount(), 0);
        Due.due("rule 1, public and final", type.getModifiers(), Modifier.PUBLIC | Modifier.FINAL);
        fields(type, CONSTANTS);
        for (Class<?> inside : type.getDeclaredClasses()) {
            fields(inside, Set.of());
        }
    }

    private static String signature(Method m) {
        List<String> types = new ArrayList<>();
        for (Class<?> p : m.getParameterTypes()) {
            types.add(p.getName());
        }
        return m.getReturnType().getName() + " " + m.getName() + "(" + String.join(",", types) + ")";
    }

    private static void fields(Class<?> type, Set<String> publicOnes) {
        int held = 0;
        int found = 0;
        for (Field f : type.getDeclaredFields()) {
            boolean isStatic = Modifier.isStatic(f.getModifiers());
            held += isStatic ? 0 : 1;
            Due.due("rule 5, " + f, isStatic && !Modifier.isFinal(f.getModifiers()) ? 1 : 0, 0);
            if (Modifier.isPublic(f.getModifiers())) {
                Due.due("rule 1, " + f, publicOnes.contains(f.getName()) && f.getType() == int.class ? 0 : 1, 0);
                found++;
            } else {
                Due.due("rule 1, private " + f, Modifier.isPrivate(f.getModifiers()) ? 0 : 1, 0);
            }
        }
        Due.due("rule 1, constants of " + type, found, publicOnes.size());
        Due.due("rule 11, fields of " + type, held <= MOST_FIELDS ? 0 : held, 0);
    }
}
