import com.sun.source.tree.AssertTree;
import com.sun.source.tree.BlockTree;
import com.sun.source.tree.ClassTree;
import com.sun.source.tree.CompilationUnitTree;
import com.sun.source.tree.DoWhileLoopTree;
import com.sun.source.tree.IdentifierTree;
import com.sun.source.tree.LambdaExpressionTree;
import com.sun.source.tree.MemberReferenceTree;
import com.sun.source.tree.MethodInvocationTree;
import com.sun.source.tree.MethodTree;
import com.sun.source.tree.NewArrayTree;
import com.sun.source.tree.NewClassTree;
import com.sun.source.tree.SynchronizedTree;
import com.sun.source.tree.ThrowTree;
import com.sun.source.tree.Tree;
import com.sun.source.tree.TryTree;
import com.sun.source.tree.VariableTree;
import com.sun.source.tree.WhileLoopTree;
import com.sun.source.util.JavacTask;
import com.sun.source.util.SourcePositions;
import com.sun.source.util.TreePathScanner;
import com.sun.source.util.Trees;
import java.io.IOException;
import java.nio.file.Path;
import java.util.ArrayDeque;
import java.util.Deque;
import java.util.LinkedHashMap;
import java.util.LinkedHashSet;
import java.util.List;
import java.util.Map;
import java.util.Set;
import javax.lang.model.element.Element;
import javax.lang.model.element.ElementKind;
import javax.lang.model.element.Modifier;
import javax.lang.model.util.ElementFilter;
import javax.tools.JavaCompiler;
import javax.tools.StandardJavaFileManager;
import javax.tools.ToolProvider;

/**
 * What can be counted or looked up of the rules of LANGUAGE.md, in the program's text as the compiler reads it; to be
 * run from the project's root. It is stricter than the rules where the program needs less than they leave.
 */
public final class LanguageTest extends TreePathScanner<Void, Void> {
    private static final String PROGRAM = "src/main/java/PassiveBuses.java";
    private static final Set<String> LIBRARY = Set.of("java.lang.Integer.compare(int,int)");
    private static final Set<String> CONSTANTS = Set.of("int", "long", "boolean", "char", "java.lang.String");
    private static final Set<String> FIELDS = Set.of("int", "boolean", "int[]");
    private static final int MOST_PARAMETERS = 7;
    private static final int MOST_LINES = 60;
    private static final int MOST_FIELDS = 20;
    private static final int MOST_CLASSES = 12;
    private static final int DEEPEST = 8;

    private final Due due = new Due();
    private final Trees trees;
    private final CompilationUnitTree unit;
    /** For each method and constructor of the program, those that it calls. */
    private final Map<Element, Set<Element>> calls = new LinkedHashMap<>();
    private final Map<Element, Integer> depths = new LinkedHashMap<>();
    private final Deque<Element> callers = new ArrayDeque<>();
    private int classes = 0;

    private LanguageTest(Trees trees, CompilationUnitTree unit) {
        this.trees = trees;
        this.unit = unit;
    }

    public static void main(String[] args) throws IOException {
        JavaCompiler compiler = ToolProvider.getSystemJavaCompiler();
        try (StandardJavaFileManager files = compiler.getStandardFileManager(null, null, null)) {
            JavacTask task = (JavacTask) compiler.getTask(null, files, null, List.of("--release", "17", "-proc:none"),
                null, files.getJavaFileObjects(Path.of(PROGRAM)));
            CompilationUnitTree unit = task.parse().iterator().next();
            task.analyze();
            LanguageTest test = new LanguageTest(Trees.instance(task), unit);
            test.scan(unit, null);
            test.finish();
        }
    }

    private void finish() {
        due.in("rule 11: the file");
        due.yes("classes are " + classes, classes <= MOST_CLASSES);
        due.in("no package and no import");
        due.yes("package", unit.getPackageName() == null);
        due.is("imports", unit.getImports().size(), 0);
        for (Element method : calls.keySet()) {
            due.in("rules 8 and 11: calls that stand open at once");
            int depth = depth(method, new LinkedHashSet<>());
            due.yes(method + " goes " + depth + " deep", depth <= DEEPEST);
        }
        due.end();
    }

    /** The method itself counts as one. A method that comes back to itself counts as far too deep. */
    private int depth(Element method, Set<Element> open) {
        if (!open.add(method)) {
            return 1_000;
        }
        Integer known = depths.get(method);
        if (known == null) {
            known = 1;
            for (Element called : calls.getOrDefault(method, Set.of())) {
                known = Math.max(known, 1 + depth(called, open));
            }
            depths.put(method, known);
        }
        open.remove(method);
        return known;
    }

    private Element element() {
        return trees.getElement(getCurrentPath());
    }

    private long lines(Tree tree) {
        SourcePositions positions = trees.getSourcePositions();
        return unit.getLineMap().getLineNumber(positions.getEndPosition(unit, tree))
            - unit.getLineMap().getLineNumber(positions.getStartPosition(unit, tree)) + 1;
    }

    private void never(Tree tree) {
        due.in("line " + unit.getLineMap().getLineNumber(trees.getSourcePositions().getStartPosition(unit, tree)));
        due.no(tree.getKind() + " in the program", true);
    }

    @Override
    public Void visitClass(ClassTree tree, Void nothing) {
        classes++;
        Element type = element();
        due.in("rules 1 and 2: class " + type);
        boolean nested = type.getEnclosingElement().getKind() == ElementKind.CLASS;
        due.yes("static or outermost", !nested || type.getModifiers().contains(Modifier.STATIC));
        due.no("local or anonymous", type.getEnclosingElement() instanceof javax.lang.model.element.ExecutableElement);
        int fields = 0;
        for (Element field : ElementFilter.fieldsIn(type.getEnclosedElements())) {
            fields += field.getModifiers().contains(Modifier.STATIC) ? 0 : 1;
        }
        due.in("rule 11: class " + type);
        due.yes("fields are " + fields, fields <= MOST_FIELDS);
        for (Tree member : tree.getMembers()) {
            due.no("an initialiser block", member instanceof BlockTree);
        }
        return super.visitClass(tree, nothing);
    }

    @Override
    public Void visitVariable(VariableTree tree, Void nothing) {
        Element variable = element();
        if (variable.getKind() != ElementKind.FIELD) {
            return super.visitVariable(tree, nothing);
        }
        due.in("rules 3 and 5: field " + variable.getEnclosingElement() + "." + variable);
        String type = variable.asType().toString();
        if (variable.getModifiers().contains(Modifier.STATIC)) {
            due.yes("final", variable.getModifiers().contains(Modifier.FINAL));
            due.yes("a constant of type " + type, CONSTANTS.contains(type));
            return super.visitVariable(tree, nothing);
        }
        due.yes("type " + type, FIELDS.contains(type) || type.startsWith("PassiveBuses."));
        // What an initialiser calls is called by the constructor.
        callers.push(ElementFilter.constructorsIn(variable.getEnclosingElement().getEnclosedElements()).get(0));
        super.visitVariable(tree, nothing);
        callers.pop();
        return null;
    }

    @Override
    public Void visitMethod(MethodTree tree, Void nothing) {
        Element method = element();
        calls.computeIfAbsent(method, any -> new LinkedHashSet<>());
        due.in("rule 11: " + method.getEnclosingElement() + "." + method);
        due.yes("parameters are " + tree.getParameters().size(), tree.getParameters().size() <= MOST_PARAMETERS);
        due.yes("lines are " + lines(tree), lines(tree) <= MOST_LINES);
        callers.push(method);
        super.visitMethod(tree, nothing);
        callers.pop();
        return null;
    }

    @Override
    public Void visitMethodInvocation(MethodInvocationTree tree, Void nothing) {
        noteCall(element());
        return super.visitMethodInvocation(tree, nothing);
    }

    @Override
    public Void visitNewClass(NewClassTree tree, Void nothing) {
        noteMaking();
        noteCall(element());
        return super.visitNewClass(tree, nothing);
    }

    @Override
    public Void visitNewArray(NewArrayTree tree, Void nothing) {
        noteMaking();
        return super.visitNewArray(tree, nothing);
    }

    private void noteMaking() {
        due.in("rule 12: objects and arrays are made in constructors alone");
        due.yes("made in " + callers.peek(), callers.peek().getKind() == ElementKind.CONSTRUCTOR);
    }

    private void noteCall(Element called) {
        String type = called.getEnclosingElement().toString();
        if (type.equals("java.lang.Object") && called.getKind() == ElementKind.CONSTRUCTOR) {
            return;
        }
        calls.computeIfAbsent(callers.peek(), any -> new LinkedHashSet<>()).add(called);
        due.in("rules 4 and 13: the library");
        due.yes(type + "." + called, type.startsWith("PassiveBuses") || LIBRARY.contains(type + "." + called));
    }

    @Override
    public Void visitIdentifier(IdentifierTree tree, Void nothing) {
        Element named = element();
        if (named != null && named.getKind().isClass()) {
            due.in("rule 3: a type");
            String name = named.toString();
            due.yes(name, name.startsWith("PassiveBuses") || name.equals("java.lang.Integer"));
        }
        return super.visitIdentifier(tree, nothing);
    }

    @Override
    public Void visitLambdaExpression(LambdaExpressionTree tree, Void nothing) {
        never(tree);
        return null;
    }

    @Override
    public Void visitMemberReference(MemberReferenceTree tree, Void nothing) {
        never(tree);
        return null;
    }

    @Override
    public Void visitThrow(ThrowTree tree, Void nothing) {
        never(tree);
        return null;
    }

    @Override
    public Void visitTry(TryTree tree, Void nothing) {
        never(tree);
        return null;
    }

    @Override
    public Void visitSynchronized(SynchronizedTree tree, Void nothing) {
        never(tree);
        return null;
    }

    @Override
    public Void visitAssert(AssertTree tree, Void nothing) {
        never(tree);
        return null;
    }

    /** Every loop of the program goes over an array or counts up to a bound. */
    @Override
    public Void visitWhileLoop(WhileLoopTree tree, Void nothing) {
        never(tree);
        return null;
    }

    @Override
    public Void visitDoWhileLoop(DoWhileLoopTree tree, Void nothing) {
        never(tree);
        return null;
    }
}
