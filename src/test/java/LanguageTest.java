import com.sun.source.tree.AssertTree;
import com.sun.source.tree.BinaryTree;
import com.sun.source.tree.ClassTree;
import com.sun.source.tree.CompilationUnitTree;
import com.sun.source.tree.CompoundAssignmentTree;
import com.sun.source.tree.ImportTree;
import com.sun.source.tree.LambdaExpressionTree;
import com.sun.source.tree.LineMap;
import com.sun.source.tree.LiteralTree;
import com.sun.source.tree.MemberReferenceTree;
import com.sun.source.tree.MemberSelectTree;
import com.sun.source.tree.MethodInvocationTree;
import com.sun.source.tree.MethodTree;
import com.sun.source.tree.NewClassTree;
import com.sun.source.tree.SynchronizedTree;
import com.sun.source.tree.ThrowTree;
import com.sun.source.tree.Tree;
import com.sun.source.tree.TryTree;
import com.sun.source.tree.VariableTree;
import com.sun.source.util.JavacTask;
import com.sun.source.util.SourcePositions;
import com.sun.source.util.TreePath;
import com.sun.source.util.TreePathScanner;
import com.sun.source.util.Trees;
import java.io.File;
import java.io.IOException;
import java.util.ArrayList;
import java.util.HashMap;
import java.util.HashSet;
import java.util.LinkedHashMap;
import java.util.List;
import java.util.Map;
import java.util.Set;
import javax.lang.model.element.Element;
import javax.lang.model.element.ElementKind;
import javax.lang.model.element.ExecutableElement;
import javax.lang.model.element.Modifier;
import javax.tools.JavaCompiler;
import javax.tools.StandardJavaFileManager;
import javax.tools.ToolProvider;

/** Looks through the class's source for what ../shared/LANGUAGE.md forbids, as far as that can be seen by a program. */
public final class LanguageTest extends TreePathScanner<Void, Void> {
    private static final int MOST_CLASSES = 12;
    private static final int MOST_FIELDS = 20;
    private static final int MOST_PARAMETERS = 7;
    private static final int MOST_LINES = 60;
    private static final int MOST_DEEP = 8;
    private static final String LISTS = "<init> add get set remove size isEmpty clear of iterator";
    private static final Map<String, String> LIBRARY = Map.of(
        "java.lang.String", "<init> length charAt isEmpty equals indexOf substring toCharArray",
        "java.lang.StringBuilder", "<init> append charAt setCharAt setLength deleteCharAt reverse length toString",
        "java.util.ArrayList", LISTS, "java.util.List", LISTS,
        "java.util.Arrays", "copyOf copyOfRange fill", "java.lang.System", "arraycopy",
        "java.util.Iterator", "hasNext next", "java.lang.Comparable", "compareTo", "java.lang.Object", "<init> clone");
    private static final Set<String> NUMBERS = Set.of("java.lang.Integer", "java.lang.Long", "java.lang.Math");
    private static final Set<String> IMPORTS = Set.of("java.util.ArrayList", "java.util.List", "java.util.Arrays", "java.util.Iterator");
    /** The only methods that call one another round: they carry their depth, and ten deep is refused. */
    private static final Set<String> RECURSION = Set.of("fact", "test");
    private static final String FACE = "feed end text sheet press fold turn done facet ridge of length adds expected foretold "
        + "miss guess curve sizes classes apart likest seen right often corners flat strength strip beside most steps heart "
        + "after alike which runs until halves count image back";

    private int wrong = 0;
    private int classes = 0;
    private final Trees trees;
    private final SourcePositions positions;
    private final CompilationUnitTree unit;
    private final LineMap lines;
    private final Set<String> face = new HashSet<>(List.of(FACE.split(" ")));
    private final Set<String> found = new HashSet<>();
    private final Map<Element, Set<Element>> calls = new LinkedHashMap<>();

    private LanguageTest(Trees trees, CompilationUnitTree unit) {
        this.trees = trees;
        this.unit = unit;
        positions = trees.getSourcePositions();
        lines = unit.getLineMap();
    }

    private void fail(Tree tree, String what) {
        wrong++;
        System.out.println("line " + lines.getLineNumber(positions.getStartPosition(unit, tree)) + ": " + what);
    }

    private MethodTree method() {
        for (var path = getCurrentPath(); path != null; path = path.getParentPath()) {
            if (path.getLeaf() instanceof MethodTree m) return m;
        }
        return null;
    }

    @Override public Void visitClass(ClassTree tree, Void v) {
        classes++;
        Element element = trees.getElement(getCurrentPath());
        boolean outer = element.getEnclosingElement().getKind() == ElementKind.PACKAGE;
        Set<Modifier> modifiers = tree.getModifiers().getFlags();
        if (outer && !modifiers.containsAll(Set.of(Modifier.PUBLIC, Modifier.FINAL))) fail(tree, "not public and final");
        if (!outer && !modifiers.contains(Modifier.STATIC)) fail(tree, "an inner class that isn't static");
        if (method() != null) fail(tree, "a class in a method");
        long fields = element.getEnclosedElements().stream()
            .filter(e -> e.getKind() == ElementKind.FIELD && !e.getModifiers().contains(Modifier.STATIC)).count();
        if (fields > MOST_FIELDS) fail(tree, fields + " fields");
        for (Element e : element.getEnclosedElements()) {
            boolean open = !e.getModifiers().contains(Modifier.PRIVATE);
            if (outer && open && e.getKind() != ElementKind.METHOD) found.add(e.getKind() + " " + e);
        }
        return super.visitClass(tree, v);
    }

    @Override public Void visitMethod(MethodTree tree, Void v) {
        Element element = trees.getElement(getCurrentPath());
        boolean outer = element.getEnclosingElement().getSimpleName().contentEquals("CrumpledSheet");
        String name = tree.getName().toString();
        calls.putIfAbsent(element, new HashSet<>());
        if (tree.getParameters().size() > MOST_PARAMETERS) fail(tree, "too many parameters");
        long from = lines.getLineNumber(positions.getStartPosition(unit, tree));
        long to = lines.getLineNumber(positions.getEndPosition(unit, tree));
        if (to - from + 1 > MOST_LINES) fail(tree, name + " is too long");
        boolean open = tree.getModifiers().getFlags().contains(Modifier.PUBLIC);
        boolean hidden = tree.getModifiers().getFlags().contains(Modifier.PRIVATE);
        if (outer && open && !name.equals("<init>")) found.add("METHOD " + name);
        if (outer && !open && !hidden) fail(tree, "package-visible " + name);
        if (!(outer && open) && face.contains(name)) fail(tree, name + " bears a public name");
        if (Set.of("equals", "hashCode", "toString").contains(name)) fail(tree, name);
        return super.visitMethod(tree, v);
    }

    @Override public Void visitVariable(VariableTree tree, Void v) {
        Element element = trees.getElement(getCurrentPath());
        Set<Modifier> modifiers = element.getModifiers();
        if (modifiers.contains(Modifier.STATIC) && !modifiers.contains(Modifier.FINAL)) fail(tree, "static and not final");
        return super.visitVariable(tree, v);
    }

    @Override public Void visitMethodInvocation(MethodInvocationTree tree, Void v) {
        Element element = trees.getElement(getCurrentPath());
        boolean own = calls.containsKey(element) || isOwn(element);
        MethodTree caller = method();
        if (own && caller != null) {
            calls.computeIfAbsent(trees.getElement(trees.getPath(unit, caller)), k -> new HashSet<>()).add(element);
        }
        if (!own && !isListed(element)) fail(tree, "library: " + element.getEnclosingElement() + "." + element.getSimpleName());
        return super.visitMethodInvocation(tree, v);
    }

    private static boolean isOwn(Element element) {
        return element.toString().isEmpty() || element.getEnclosingElement().toString().startsWith("CrumpledSheet");
    }

    /** What rule 4 lists: of the numbers' classes all but what throws. */
    private static boolean isListed(Element element) {
        String owner = element.getEnclosingElement().toString().replaceAll("<.*", "");
        String name = element.getSimpleName().toString();
        if (NUMBERS.contains(owner)) return element.getModifiers().contains(Modifier.STATIC) && !name.endsWith("Exact");
        return owner.equals("Array") || List.of(LIBRARY.getOrDefault(owner, "").split(" ")).contains(name);
    }

    /** Rule 4 lists functions alone: of the library no constant may be used, only how long an array is. */
    @Override public Void visitMemberSelect(MemberSelectTree tree, Void v) {
        Element element = trees.getElement(getCurrentPath());
        boolean field = element != null && element.getKind() == ElementKind.FIELD;
        if (field && !isOwn(element) && !tree.getIdentifier().contentEquals("length")) fail(tree, "library: " + tree);
        return super.visitMemberSelect(tree, v);
    }

    private boolean isText(Tree tree) {
        return "java.lang.String".equals(String.valueOf(trees.getTypeMirror(new TreePath(getCurrentPath(), tree))));
    }

    /** Rule 6 forbids to compare texts by a sign, rule 10 to join them by one. */
    @Override public Void visitBinary(BinaryTree tree, Void v) {
        Tree left = tree.getLeftOperand();
        Tree right = tree.getRightOperand();
        if (isText(left) || isText(right)) fail(tree, "texts joined or compared by a sign");
        return super.visitBinary(tree, v);
    }

    @Override public Void visitCompoundAssignment(CompoundAssignmentTree tree, Void v) {
        if (isText(tree.getVariable())) fail(tree, "texts joined by a sign");
        return super.visitCompoundAssignment(tree, v);
    }

    @Override public Void visitImport(ImportTree tree, Void v) {
        if (tree.isStatic() || !IMPORTS.contains(tree.getQualifiedIdentifier().toString())) fail(tree, "an import");
        return super.visitImport(tree, v);
    }

    @Override public Void visitNewClass(NewClassTree tree, Void v) {
        if (tree.getClassBody() != null) fail(tree, "an anonymous class");
        return super.visitNewClass(tree, v);
    }

    @Override public Void visitThrow(ThrowTree tree, Void v) { fail(tree, "throw"); return null; }
    @Override public Void visitTry(TryTree tree, Void v) { fail(tree, "try"); return null; }
    @Override public Void visitAssert(AssertTree tree, Void v) { fail(tree, "assert"); return null; }
    @Override public Void visitSynchronized(SynchronizedTree tree, Void v) { fail(tree, "synchronized"); return null; }
    @Override public Void visitLambdaExpression(LambdaExpressionTree tree, Void v) { fail(tree, "lambda"); return null; }
    @Override public Void visitMemberReference(MemberReferenceTree tree, Void v) { fail(tree, "reference"); return null; }

    @Override public Void visitLiteral(LiteralTree tree, Void v) {
        if (tree.getValue() instanceof String s && s.chars().anyMatch(c -> c < 1 || c > 127)) fail(tree, "sign in a text");
        return super.visitLiteral(tree, v);
    }

    // ==== how deep the calls go, methods that call one another round counted as one

    private boolean reaches(Element from, Element to, Set<Element> seen) {
        for (Element next : calls.getOrDefault(from, Set.of())) {
            if (next.equals(to) || seen.add(next) && reaches(next, to, seen)) return true;
        }
        return false;
    }

    private List<Element> deepest(Element from, Map<Element, List<Element>> known) {
        if (known.containsKey(from)) return known.get(from);
        List<Element> round = new ArrayList<>(List.of(from));
        for (Element e : calls.keySet()) {
            boolean bothWays = !e.equals(from) && reaches(from, e, new HashSet<>()) && reaches(e, from, new HashSet<>());
            if (bothWays) round.add(e);
        }
        List<Element> best = List.of();
        for (Element member : round) {
            for (Element next : calls.getOrDefault(member, Set.of())) {
                if (round.contains(next)) continue;
                List<Element> deep = deepest(next, known);
                if (deep.size() > best.size()) best = deep;
            }
        }
        List<Element> all = new ArrayList<>(List.of(from));
        all.addAll(best);
        known.put(from, all);
        return all;
    }

    private void checkWhole() {
        if (classes > MOST_CLASSES) fail(unit, classes + " classes");
        Set<String> want = new HashSet<>(Set.of("FIELD NONE", "CONSTRUCTOR CrumpledSheet()"));
        for (String name : face) want.add("METHOD " + name);
        if (!found.equals(want)) fail(unit, "the face is " + found);
        Map<Element, List<Element>> known = new HashMap<>();
        for (Element e : new ArrayList<>(calls.keySet())) {
            List<Element> deep = deepest(e, known);
            if (e instanceof ExecutableElement && deep.size() > MOST_DEEP) fail(unit, "too deep: " + deep);
            boolean guarded = RECURSION.contains(e.getSimpleName().toString());
            if (reaches(e, e, new HashSet<>()) && !guarded) fail(unit, "calls itself: " + e);
        }
    }

    public static void main(String[] args) throws IOException {
        JavaCompiler compiler = ToolProvider.getSystemJavaCompiler();
        StandardJavaFileManager files = compiler.getStandardFileManager(null, null, null);
        File source = new File(args.length > 0 ? args[0] : "src/main/java/CrumpledSheet.java");
        JavacTask task = (JavacTask) compiler.getTask(null, files, null, List.of("-proc:none"), null, files.getJavaFileObjects(source));
        CompilationUnitTree unit = task.parse().iterator().next();
        task.analyze();
        LanguageTest test = new LanguageTest(Trees.instance(task), unit);
        if (unit.getPackageName() != null) test.fail(unit, "a package");
        test.scan(unit, null);
        test.checkWhole();
        System.out.println(test.wrong == 0 ? "the source keeps to the rules" : test.wrong + " breaches of the rules");
        if (test.wrong != 0) System.exit(1);
    }
}
