import com.sun.source.tree.ClassTree;
import com.sun.source.tree.CompilationUnitTree;
import com.sun.source.tree.LineMap;
import com.sun.source.tree.MethodInvocationTree;
import com.sun.source.tree.MethodTree;
import com.sun.source.tree.NewClassTree;
import com.sun.source.tree.Tree;
import com.sun.source.tree.VariableTree;
import com.sun.source.util.JavacTask;
import com.sun.source.util.SourcePositions;
import com.sun.source.util.TreePath;
import com.sun.source.util.TreePathScanner;
import com.sun.source.util.Trees;
import java.io.File;
import java.io.IOException;
import java.util.ArrayList;
import java.util.EnumSet;
import java.util.LinkedHashMap;
import java.util.LinkedHashSet;
import java.util.List;
import java.util.Map;
import java.util.Set;
import javax.lang.model.element.Element;
import javax.lang.model.element.ExecutableElement;
import javax.lang.model.element.Modifier;
import javax.lang.model.element.TypeElement;
import javax.tools.JavaCompiler;
import javax.tools.StandardJavaFileManager;
import javax.tools.ToolProvider;

/** The rules of LANGUAGE.md that need the compiler's own reading of the class: who calls whom, how deep, how long. */
public final class LanguageTest extends TreePathScanner<Void, Void> {
    private static final String SOURCE = "src/main/java/CompassMarriage.java";
    private static final int DEEPEST = 8, LINES = 60, PARAMETERS = 7, CLASSES = 12, FIELDS = 20;
    private static final Set<String> LIBRARY = Set.of("System.arraycopy", "Arrays.copyOf", "Arrays.copyOfRange",
        "Arrays.fill", "Math.min", "Math.max", "Math.abs", "Integer.bitCount");
    private static final Set<String> CONSTANT_TYPES = Set.of("int", "long", "boolean", "char", "java.lang.String",
        "int[]", "long[]", "char[]", "byte[]");
    private static final Set<Tree.Kind> RULED_OUT = EnumSet.of(Tree.Kind.THROW, Tree.Kind.TRY, Tree.Kind.CATCH,
        Tree.Kind.SYNCHRONIZED, Tree.Kind.ASSERT, Tree.Kind.LAMBDA_EXPRESSION, Tree.Kind.MEMBER_REFERENCE,
        Tree.Kind.IMPORT, Tree.Kind.PACKAGE, Tree.Kind.ANNOTATION);

    private final Trees trees;
    private final CompilationUnitTree unit;
    /** Who is called by whom, constructors too. */
    private final Map<String, Set<String>> calls = new LinkedHashMap<>();
    private int classes;

    private LanguageTest(Trees trees, CompilationUnitTree unit) {
        this.trees = trees;
        this.unit = unit;
    }

    public static void main(String[] args) throws IOException {
        JavaCompiler compiler = ToolProvider.getSystemJavaCompiler();
        try (StandardJavaFileManager files = compiler.getStandardFileManager(null, null, null)) {
            JavacTask task = (JavacTask) compiler.getTask(null, files, null, List.of("-proc:none"), null,
                files.getJavaFileObjects(new File(SOURCE)));
            CompilationUnitTree unit = task.parse().iterator().next();
            task.analyze();
            LanguageTest test = new LanguageTest(Trees.instance(task), unit);
            test.scan(unit, null);
            test.looksAtDepth();
            Check.isTrue("rule 11: some twelve classes at most", test.classes <= CLASSES);
        }
        Check.end();
    }

    @Override
    public Void scan(Tree tree, Void nothing) {
        if (tree != null) {
            Check.isTrue("no " + tree.getKind() + ": " + tree, !RULED_OUT.contains(tree.getKind()));
        }
        return super.scan(tree, nothing);
    }

    @Override
    public Void visitClass(ClassTree tree, Void nothing) {
        classes++;
        boolean inside = getCurrentPath().getParentPath().getLeaf() instanceof ClassTree;
        boolean isStatic = tree.getModifiers().getFlags().contains(Modifier.STATIC);
        Check.isTrue("rule 2: " + tree.getSimpleName() + " is static, as it is inside", inside == isStatic);
        int fields = 0;
        for (Tree member : tree.getMembers()) {
            Check.isTrue("rule 5: no initialiser block", member.getKind() != Tree.Kind.BLOCK);
            if (member instanceof VariableTree field) {
                fields += looksAtField(field) ? 0 : 1;
            }
        }
        Check.isTrue("rule 11: some twenty fields at most in " + tree.getSimpleName(), fields <= FIELDS);
        return super.visitClass(tree, nothing);
    }

    /** Whether it is a constant. */
    private boolean looksAtField(VariableTree field) {
        Set<Modifier> flags = field.getModifiers().getFlags();
        if (!flags.contains(Modifier.STATIC)) {
            return false;
        }
        String type = trees.getElement(new TreePath(getCurrentPath(), field)).asType().toString();
        Check.isTrue("rule 5: " + field.getName() + " is final and of a plain type",
            flags.contains(Modifier.FINAL) && CONSTANT_TYPES.contains(type));
        boolean isWrittenOut = field.getInitializer() != null
            && (!type.endsWith("[]") || field.getInitializer().getKind() == Tree.Kind.NEW_ARRAY);
        Check.isTrue("rule 5: " + field.getName() + " is written out", isWrittenOut);
        return true;
    }

    @Override
    public Void visitMethod(MethodTree tree, Void nothing) {
        calls.computeIfAbsent(here(), key -> new LinkedHashSet<>());
        Check.isTrue("rule 11: seven parameters at most in " + here(), tree.getParameters().size() <= PARAMETERS);
        Check.isTrue("rule 11: some sixty lines at most in " + here(), linesOf(tree) <= LINES);
        return super.visitMethod(tree, nothing);
    }

    private long linesOf(Tree tree) {
        SourcePositions positions = trees.getSourcePositions();
        LineMap lines = unit.getLineMap();
        long start = Math.max(0, positions.getStartPosition(unit, tree));
        long end = Math.max(start, positions.getEndPosition(unit, tree));
        return lines.getLineNumber(end) - lines.getLineNumber(start) + 1;
    }

    @Override
    public Void visitMethodInvocation(MethodInvocationTree tree, Void nothing) {
        noteCall(trees.getElement(getCurrentPath()));
        return super.visitMethodInvocation(tree, nothing);
    }

    @Override
    public Void visitNewClass(NewClassTree tree, Void nothing) {
        Check.isTrue("rule 2: no class without a name", tree.getClassBody() == null);
        noteCall(trees.getElement(getCurrentPath()));
        return super.visitNewClass(tree, nothing);
    }

    private void noteCall(Element called) {
        TypeElement owner = (TypeElement) called.getEnclosingElement();
        boolean isOwn = owner.getQualifiedName().toString().startsWith("CompassMarriage");
        String name = nameOf(called);
        boolean isOfObject = name.equals("Object.<init>");
        Check.isTrue("rule 4: " + name + " is the class's own or in the list", isOwn || isOfObject || LIBRARY.contains(name));
        if (isOwn) {
            calls.computeIfAbsent(here(), key -> new LinkedHashSet<>()).add(name);
        }
    }

    private static String nameOf(Element called) {
        return called.getEnclosingElement().getSimpleName() + "." + ((ExecutableElement) called).getSimpleName();
    }

    /** The method that is being read; a field's initialiser is done by the constructor. */
    private String here() {
        for (TreePath path = getCurrentPath(); path != null; path = path.getParentPath()) {
            if (path.getLeaf() instanceof MethodTree) {
                return nameOf(trees.getElement(path));
            }
            if (path.getLeaf() instanceof ClassTree c) {
                return c.getSimpleName() + ".<init>";
            }
        }
        return "";
    }

    private void looksAtDepth() {
        List<String> longest = new ArrayList<>();
        for (String method : calls.keySet()) {
            follow(method, new ArrayList<>(), longest);
        }
        Check.isTrue("rule 11: eight calls deep at most, the call from outside being the first: " + longest,
            longest.size() <= DEEPEST);
    }

    private void follow(String method, List<String> open, List<String> longest) {
        if (open.contains(method)) {
            Check.isTrue("rule 8: " + method + " calls itself: " + open, false);
            return;
        }
        open.add(method);
        if (open.size() > longest.size()) {
            longest.clear();
            longest.addAll(open);
        }
        for (String called : calls.getOrDefault(method, Set.of())) {
            follow(called, open, longest);
        }
        open.remove(open.size() - 1);
    }
}
