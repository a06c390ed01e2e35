import com.sun.source.tree.*;
import com.sun.source.util.JavacTask;
import com.sun.source.util.SourcePositions;
import com.sun.source.util.TreePathScanner;
import com.sun.source.util.Trees;
import java.io.File;
import java.util.ArrayList;
import java.util.HashMap;
import java.util.HashSet;
import java.util.LinkedHashMap;
import java.util.List;
import java.util.Map;
import java.util.Set;
import java.util.TreeSet;
import javax.lang.model.element.Element;
import javax.lang.model.element.ElementKind;
import javax.lang.model.element.ExecutableElement;
import javax.lang.model.element.Modifier;
import javax.lang.model.element.TypeElement;
import javax.lang.model.element.VariableElement;
import javax.tools.JavaCompiler;
import javax.tools.StandardJavaFileManager;
import javax.tools.ToolProvider;

/** What of LANGUAGE.md can be read off the source, from the project's folder. */
final class LanguageTest extends TreePathScanner<Void, Void> {
    private static final Set<String> FACE = Set.of("feed", "land", "rule", "way", "good", "worth", "person", "make",
            "go", "give", "thing", "lawful", "round", "most", "at", "length", "live", "beside", "had", "never",
            "fewest", "fair", "fairest", "far", "coin", "lifted", "lift", "lie", "years", "visited", "mark", "count");
    private static final Set<String> LIBRARY = Set.of("java.lang.Object.<init>", "java.lang.String.length",
            "java.lang.String.charAt", "java.lang.String.indexOf", "java.lang.Math.max", "java.lang.Math.min",
            "java.lang.Integer.bitCount", "java.lang.Integer.numberOfTrailingZeros", "java.util.Arrays.fill",
            "java.lang.System.arraycopy", "java.util.NoSuchElementException.<init>");
    private static final Set<Tree.Kind> FORBIDDEN = Set.of(Tree.Kind.LAMBDA_EXPRESSION, Tree.Kind.MEMBER_REFERENCE,
            Tree.Kind.SYNCHRONIZED, Tree.Kind.ASSERT, Tree.Kind.TRY, Tree.Kind.SWITCH_EXPRESSION, Tree.Kind.TYPE_CAST,
            Tree.Kind.INSTANCE_OF, Tree.Kind.ANNOTATION, Tree.Kind.WHILE_LOOP, Tree.Kind.DO_WHILE_LOOP);

    private final CompilationUnitTree unit;
    private final SourcePositions positions;
    private final Trees trees;
    private final Map<Element, Set<Element>> calls = new LinkedHashMap<>();
    private final List<String> casts = new ArrayList<>();
    private int classes;

    private LanguageTest(CompilationUnitTree unit, Trees trees) {
        this.unit = unit;
        this.trees = trees;
        this.positions = trees.getSourcePositions();
    }

    public static void main(String[] args) throws Exception {
        JavaCompiler compiler = ToolProvider.getSystemJavaCompiler();
        StandardJavaFileManager files = compiler.getStandardFileManager(null, null, null);
        JavacTask task = (JavacTask) compiler.getTask(null, files, null, List.of("-proc:none"), null,
                files.getJavaFileObjects(new File("src/main/java/OwnMade.java")));
        CompilationUnitTree unit = task.parse().iterator().next();
        task.analyze();
        LanguageTest test = new LanguageTest(unit, Trees.instance(task));
        test.scan(unit, null);
        test.depths();
        Due.is("at most 12 classes: " + test.classes, test.classes <= 12, true);
        Due.is("one file's package", unit.getPackage() == null, true);
        Due.is("the whole face", test.face(), FACE.size());
        Due.end("LanguageTest");
    }

    private long face() {
        return calls.keySet().stream().filter(m -> isFace(m)).map(m -> m.getSimpleName().toString()).distinct().count();
    }

    private static boolean isFace(Element method) {
        return method.getModifiers().contains(Modifier.PUBLIC) && FACE.contains(method.getSimpleName().toString());
    }

    private long line(long position) {
        return unit.getLineMap().getLineNumber(position);
    }

    private void holds(String what, Tree where, boolean so) {
        Due.is(what + ", line " + line(positions.getStartPosition(unit, where)), so, true);
    }

    @Override
    public Void scan(Tree tree, Void v) {
        if (tree != null && FORBIDDEN.contains(tree.getKind())) {
            checkRare(tree);
        }
        return super.scan(tree, v);
    }

    /** Casts are among numbers; while loops have an index's bound in their condition. */
    private void checkRare(Tree tree) {
        if (tree instanceof TypeCastTree cast) {
            holds("a cast among numbers", tree, cast.getType().getKind() == Tree.Kind.PRIMITIVE_TYPE);
        } else if (tree instanceof WhileLoopTree loop) {
            holds("a bound in " + loop.getCondition(), tree, loop.getCondition().toString().contains(" < "));
        } else {
            holds("none of " + tree.getKind(), tree, false);
        }
    }

    @Override
    public Void visitClass(ClassTree tree, Void v) {
        classes++;
        Element type = trees.getElement(getCurrentPath());
        boolean outer = type.getEnclosingElement().getKind() == ElementKind.PACKAGE;
        if (outer) {
            holds("public and final", tree, type.getModifiers().containsAll(Set.of(Modifier.PUBLIC, Modifier.FINAL)));
        } else {
            holds("static inside", tree, type.getModifiers().contains(Modifier.STATIC));
        }
        int fields = 0;
        for (Element member : type.getEnclosedElements()) {
            Set<Modifier> how = member.getModifiers();
            boolean isStatic = how.contains(Modifier.STATIC);
            if (member instanceof VariableElement field) {
                fields += isStatic ? 0 : 1;
                boolean constant = !isStatic || how.contains(Modifier.FINAL) && field.getConstantValue() != null;
                holds("a constant: " + member, tree, constant);
            }
            if (!how.contains(Modifier.PRIVATE) && member.getKind() != ElementKind.CONSTRUCTOR) {
                boolean none = member.getSimpleName().contentEquals("NONE") && outer;
                holds("of the face: " + member, tree, none || outer && isFace(member));
            }
            if (member instanceof ExecutableElement && how.contains(Modifier.PRIVATE)) {
                holds("no name of the face: " + member, tree, !FACE.contains(member.getSimpleName().toString()));
            }
        }
        holds("some twenty fields: " + fields, tree, fields <= 20);
        return super.visitClass(tree, v);
    }

    @Override
    public Void visitMethod(MethodTree tree, Void v) {
        Element method = trees.getElement(getCurrentPath());
        calls.putIfAbsent(method, new HashSet<>());
        long length = line(positions.getEndPosition(unit, tree)) - line(positions.getStartPosition(unit, tree)) + 1;
        holds(tree.getName() + " is short: " + length, tree, length <= 60);
        holds(tree.getName() + " takes seven at most", tree, tree.getParameters().size() <= 7);
        return super.visitMethod(tree, v);
    }

    private Element inMethod() {
        for (var path = getCurrentPath(); path != null; path = path.getParentPath()) {
            if (path.getLeaf() instanceof MethodTree) {
                return trees.getElement(path);
            }
        }
        return null;
    }

    private void called(Tree tree, Element callee) {
        TypeElement owner = (TypeElement) callee.getEnclosingElement();
        if (owner.getQualifiedName().toString().startsWith("OwnMade")) {
            Element caller = inMethod();
            if (caller != null) {
                calls.computeIfAbsent(caller, m -> new HashSet<>()).add(callee);
            }
        } else {
            String name = owner.getQualifiedName() + "." + callee.getSimpleName();
            holds("of the library: " + name, tree, LIBRARY.contains(name));
        }
    }

    @Override
    public Void visitMethodInvocation(MethodInvocationTree tree, Void v) {
        called(tree, trees.getElement(getCurrentPath()));
        if (tree.getMethodSelect().toString().equals("Arrays.fill")) {
            String row = trees.getTypeMirror(new com.sun.source.util.TreePath(getCurrentPath(),
                    tree.getArguments().get(0))).toString();
            holds("a row of numbers: " + row, tree, Set.of("int[]", "long[]").contains(row));
        }
        return super.visitMethodInvocation(tree, v);
    }

    @Override
    public Void visitNewClass(NewClassTree tree, Void v) {
        called(tree, trees.getElement(getCurrentPath()));
        return super.visitNewClass(tree, v);
    }

    @Override
    public Void visitThrow(ThrowTree tree, Void v) {
        boolean plain = tree.getExpression() instanceof NewClassTree made && made.getArguments().size() <= 1
                && made.getArguments().stream().allMatch(a -> a.getKind() == Tree.Kind.STRING_LITERAL);
        holds("throw of a written text", tree, plain && isFace(inMethod()));
        return super.visitThrow(tree, v);
    }

    @Override
    public Void visitBinary(BinaryTree tree, Void v) {
        String type = trees.getTypeMirror(getCurrentPath()).toString();
        holds("no joined text", tree, !type.contains("String"));
        holds("no double", tree, !type.equals("double") && !type.equals("float"));
        if (tree.getKind() == Tree.Kind.DIVIDE || tree.getKind() == Tree.Kind.REMAINDER) {
            casts.add(tree.toString());
        }
        return super.visitBinary(tree, v);
    }

    // ---- how deep calls go ----

    /** Methods that call one another count as one. */
    private void depths() {
        Map<Element, Set<Element>> reach = new HashMap<>();
        for (Element method : calls.keySet()) {
            Set<Element> all = new HashSet<>();
            walk(method, all);
            reach.put(method, all);
        }
        TreeSet<String> again = new TreeSet<>();
        int deepest = 0;
        for (Element method : calls.keySet()) {
            if (reach.get(method).contains(method)) {
                again.add(method.getSimpleName().toString());
                Set<Modifier> how = method.getModifiers();
                boolean itself = calls.get(method).contains(method);
                Due.is(method + " calls itself and is private", how.contains(Modifier.PRIVATE), true);
                Due.is(method + " calls itself and is static", !itself || how.contains(Modifier.STATIC), true);
            }
            if (isFace(method)) {
                int depth = depth(method, reach, new HashMap<>());
                Due.is(method + " goes at most eight deep: " + depth, depth <= 8, true);
                deepest = Math.max(deepest, depth);
            }
        }
        System.out.println("deepest " + deepest + ", recursive " + again + ", divisions " + casts);
        Due.is("recursive are the known ones", again.equals(new TreeSet<>(List.of("goOn", "readJoined", "readPart"))), true);
    }

    private void walk(Element method, Set<Element> all) {
        for (Element callee : calls.getOrDefault(method, Set.of())) {
            if (all.add(callee)) {
                walk(callee, all);
            }
        }
    }

    private int depth(Element method, Map<Element, Set<Element>> reach, Map<Element, Integer> known) {
        if (known.containsKey(method)) {
            return known.get(method);
        }
        Set<Element> group = new HashSet<>(Set.of(method));
        for (Element other : reach.getOrDefault(method, Set.of())) {
            if (reach.getOrDefault(other, Set.of()).contains(method)) {
                group.add(other);
            }
        }
        int deepest = 0;
        for (Element member : group) {
            for (Element callee : calls.getOrDefault(member, Set.of())) {
                if (!group.contains(callee)) {
                    deepest = Math.max(deepest, depth(callee, reach, known));
                }
            }
        }
        for (Element member : group) {
            known.put(member, deepest + group.size());
        }
        return deepest + group.size();
    }
}
