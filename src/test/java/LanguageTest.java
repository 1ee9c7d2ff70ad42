import com.sun.source.tree.*;
import com.sun.source.util.*;
import java.io.File;
import java.util.*;
import javax.lang.model.element.*;
import javax.tools.*;

/** Holds the source of the class against the rules of LANGUAGE.md that can be seen in it. */
public final class LanguageTest extends TreePathScanner<Void, Void> {
    private static final int MOST_LINES = 60;
    private static final int MOST_PARAMETERS = 7;
    private static final int MOST_CLASSES = 12;
    private static final int MOST_FIELDS = 20;
    private static final int MOST_DEEP = 8;
    private static final Set<String> LIBRARY = Set.of("java.lang.String.length", "java.lang.String.charAt", "java.lang.Math.max",
        "java.lang.Math.min", "java.lang.Integer.bitCount", "java.lang.System.arraycopy", "java.lang.Object.<init>");
    private static final Set<Tree.Kind> FORBIDDEN = EnumSet.of(Tree.Kind.THROW, Tree.Kind.TRY, Tree.Kind.SYNCHRONIZED, Tree.Kind.ASSERT,
        Tree.Kind.LAMBDA_EXPRESSION, Tree.Kind.MEMBER_REFERENCE, Tree.Kind.DOUBLE_LITERAL, Tree.Kind.FLOAT_LITERAL);

    private final Trees trees;
    private final SourcePositions positions;
    private final CompilationUnitTree unit;
    private final Map<String, Set<String>> calls = new TreeMap<>();
    private final Set<String> publicNames = new HashSet<>();
    private final Map<String, String> otherNames = new TreeMap<>();
    private int wrong = 0;
    private int classes = 0;

    private LanguageTest(Trees trees, CompilationUnitTree unit) {
        this.trees = trees;
        this.positions = trees.getSourcePositions();
        this.unit = unit;
    }

    public static void main(String[] args) throws Exception {
        JavaCompiler compiler = ToolProvider.getSystemJavaCompiler();
        StandardJavaFileManager files = compiler.getStandardFileManager(null, null, null);
        JavacTask task = (JavacTask) compiler.getTask(null, files, null, List.of("-proc:none"), null,
            files.getJavaFileObjects(new File("src/main/java/StampQuarrels.java")));
        CompilationUnitTree unit = task.parse().iterator().next();
        task.analyze();
        LanguageTest test = new LanguageTest(Trees.instance(task), unit);
        test.scan(unit, null);
        test.finish();
        if (test.wrong > 0) {
            System.exit(1);
        }
    }

    private void fault(Tree where, String what) {
        wrong++;
        long line = where == null ? 0 : unit.getLineMap().getLineNumber(positions.getStartPosition(unit, where));
        System.out.println("line " + line + ": " + what);
    }

    private void finish() {
        for (Map.Entry<String, String> e : otherNames.entrySet()) {
            if (publicNames.contains(e.getKey())) fault(null, "rule 1: " + e.getValue() + " bears the name of a public method");
        }
        if (classes > MOST_CLASSES) fault(null, "rule 11: " + classes + " classes");
        if (!unit.getImports().isEmpty()) fault(null, "rule 4: imports");
        int deepest = 0;
        String from = "";
        for (String m : calls.keySet()) {
            int deep = depth(m);
            if (deep > deepest) {
                deepest = deep;
                from = m;
            }
        }
        if (deepest > MOST_DEEP) fault(null, "rule 11: " + deepest + " calls deep from " + from);
        System.out.println(classes + " classes, at most " + deepest + " calls deep (" + from + ")");
    }

    private final Map<String, Integer> depths = new HashMap<>();

    private boolean reaches(String from, String to, Set<String> seen) {
        for (String next : calls.getOrDefault(from, Set.of())) {
            if (next.equals(to) || seen.add(next) && reaches(next, to, seen)) return true;
        }
        return false;
    }

    /** How many open calls there are at most from there, those of recursion counted as none. */
    private int depth(String m) {
        if (depths.containsKey(m)) return depths.get(m);
        depths.put(m, 0);
        boolean loops = reaches(m, m, new HashSet<>());
        int below = 0;
        for (String next : calls.getOrDefault(m, Set.of())) below = Math.max(below, depth(next));
        int all = below + (loops ? 0 : 1);
        depths.put(m, all);
        return all;
    }

    @Override
    public Void scan(Tree tree, Void nothing) {
        if (tree != null && FORBIDDEN.contains(tree.getKind())) fault(tree, "rule 6 or 2: " + tree.getKind());
        return super.scan(tree, nothing);
    }

    @Override
    public Void visitClass(ClassTree tree, Void nothing) {
        classes++;
        Set<Modifier> mods = tree.getModifiers().getFlags();
        boolean outer = tree.getSimpleName().contentEquals("StampQuarrels");
        if (outer ? !mods.equals(Set.of(Modifier.PUBLIC, Modifier.FINAL)) : !mods.contains(Modifier.STATIC) || mods.contains(Modifier.PUBLIC)) {
            fault(tree, "rule 1: the class is " + mods);
        }
        int fields = 0;
        for (Tree member : tree.getMembers()) {
            if (member instanceof VariableTree v) {
                Set<Modifier> its = v.getModifiers().getFlags();
                if (its.contains(Modifier.STATIC)) {
                    if (!its.contains(Modifier.FINAL)) fault(v, "rule 5: " + v.getName());
                } else {
                    fields++;
                }
                if (outer && !its.contains(Modifier.PRIVATE) && !v.getName().contentEquals("NONE")) fault(v, "rule 1: " + v.getName());
            } else if (member instanceof BlockTree b) {
                fault(b, "rule 5: an initialiser");
            }
        }
        if (fields > MOST_FIELDS) fault(tree, "rule 11: " + fields + " fields");
        return super.visitClass(tree, nothing);
    }

    @Override
    public Void visitMethod(MethodTree tree, Void nothing) {
        Element method = trees.getElement(getCurrentPath());
        boolean outer = method.getEnclosingElement().getSimpleName().contentEquals("StampQuarrels");
        Set<Modifier> mods = tree.getModifiers().getFlags();
        if (outer && mods.contains(Modifier.PUBLIC)) {
            publicNames.add(tree.getName().toString());
        } else if (outer && !mods.contains(Modifier.PRIVATE)) {
            fault(tree, "rule 1: " + tree.getName());
        } else if (!tree.getName().contentEquals("<init>")) {
            otherNames.put(tree.getName().toString(), name(method));
        }
        if (tree.getParameters().size() > MOST_PARAMETERS) fault(tree, "rule 11: parameters");
        long lines = unit.getLineMap().getLineNumber(positions.getEndPosition(unit, tree))
            - unit.getLineMap().getLineNumber(positions.getStartPosition(unit, tree)) + 1;
        if (lines > MOST_LINES) fault(tree, "rule 11: " + tree.getName() + " has " + lines + " lines");
        calls.computeIfAbsent(name(method), k -> new TreeSet<>());
        return super.visitMethod(tree, nothing);
    }

    private static String name(Element method) {
        return ((QualifiedNameable) method.getEnclosingElement()).getQualifiedName() + "." + method.getSimpleName();
    }

    private void called(Tree tree, Element target) {
        if (target == null) return;
        String to = name(target);
        TreePath at = getCurrentPath();
        while (at != null && !(at.getLeaf() instanceof MethodTree)) at = at.getParentPath();
        if (to.startsWith("StampQuarrels")) {
            if (at != null) calls.computeIfAbsent(name(trees.getElement(at)), k -> new TreeSet<>()).add(to);
        } else if (!LIBRARY.contains(to)) {
            fault(tree, "rule 4: " + to);
        }
    }

    @Override
    public Void visitMethodInvocation(MethodInvocationTree tree, Void nothing) {
        called(tree, trees.getElement(new TreePath(getCurrentPath(), tree.getMethodSelect())));
        return super.visitMethodInvocation(tree, nothing);
    }

    /** Constants of the library do not stand in rule 4. */
    @Override
    public Void visitMemberSelect(MemberSelectTree tree, Void nothing) {
        Element named = trees.getElement(getCurrentPath());
        if (named != null && named.getKind() == ElementKind.FIELD && named.getEnclosingElement() instanceof QualifiedNameable owner
            && !owner.getQualifiedName().toString().startsWith("StampQuarrels") && !tree.getIdentifier().contentEquals("length")) {
            fault(tree, "rule 4: " + tree);
        }
        return super.visitMemberSelect(tree, nothing);
    }

    @Override
    public Void visitNewClass(NewClassTree tree, Void nothing) {
        if (tree.getClassBody() != null) fault(tree, "rule 2: a class without a name");
        called(tree, trees.getElement(getCurrentPath()));
        return super.visitNewClass(tree, nothing);
    }
}
