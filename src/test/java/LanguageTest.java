import com.sun.source.tree.*;
import com.sun.source.util.JavacTask;
import com.sun.source.util.TreePath;
import com.sun.source.util.TreePathScanner;
import com.sun.source.util.Trees;
import java.nio.file.Path;
import java.util.*;
import javax.lang.model.element.*;
import javax.lang.model.type.TypeKind;
import javax.tools.JavaCompiler;
import javax.tools.StandardJavaFileManager;
import javax.tools.ToolProvider;

/** The rules of ../shared/LANGUAGE.md that can be read off the source of the class. */
public final class LanguageTest extends TreePathScanner<Void, Void> {
    private static final Path SOURCE = Path.of("src", "main", "java", "BeforeItGoes.java");

    // Of rule 4 only what the class needs: what it would need more is looked up there first.
    private static final Set<String> LIBRARY = Set.of("java.lang.String.length", "java.lang.String.charAt",
            "java.lang.String.indexOf", "java.lang.Math.max", "java.lang.Math.min", "java.lang.Integer.bitCount",
            "java.lang.System.arraycopy");
    private static final Set<String> CONSTANT_TYPES =
            Set.of("int", "long", "boolean", "char", "java.lang.String", "int[]", "long[]", "char[]", "byte[]");
    private static final Set<Tree.Kind> RULED_OUT = EnumSet.of(Tree.Kind.THROW, Tree.Kind.TRY, Tree.Kind.CATCH,
            Tree.Kind.SYNCHRONIZED, Tree.Kind.ASSERT, Tree.Kind.LAMBDA_EXPRESSION, Tree.Kind.MEMBER_REFERENCE,
            Tree.Kind.DOUBLE_LITERAL, Tree.Kind.FLOAT_LITERAL, Tree.Kind.IMPORT, Tree.Kind.INSTANCE_OF,
            Tree.Kind.SWITCH_EXPRESSION, Tree.Kind.BINDING_PATTERN);

    private final Check check = new Check();
    private final Trees trees;
    private final CompilationUnitTree unit;
    private final Set<String> face = new HashSet<>();
    private final Map<Element, Set<Element>> calls = new LinkedHashMap<>();
    private int classes = 0;

    private LanguageTest(Trees trees, CompilationUnitTree unit) {
        this.trees = trees;
        this.unit = unit;
    }

    public static void main(String[] args) throws Exception {
        JavaCompiler compiler = ToolProvider.getSystemJavaCompiler();
        try (StandardJavaFileManager files = compiler.getStandardFileManager(null, null, null)) {
            JavacTask task = (JavacTask) compiler.getTask(null, files, null, List.of("-proc:none"), null,
                    files.getJavaFileObjects(SOURCE));
            CompilationUnitTree unit = task.parse().iterator().next();
            task.analyze();
            LanguageTest test = new LanguageTest(Trees.instance(task), unit);
            test.go();
            test.check.end();
        }
    }

    private void go() {
        ClassTree outer = (ClassTree) unit.getTypeDecls().get(0);
        for (Tree member : outer.getMembers()) {
            if (member instanceof MethodTree && ((MethodTree) member).getModifiers().getFlags().contains(Modifier.PUBLIC)) {
                face.add(((MethodTree) member).getName().toString());
            }
        }
        face.remove("<init>");
        check.due("rule 1: classes beside each other", unit.getTypeDecls().size(), 1);
        holds("rule 1: no package", unit.getPackageName() == null);
        scan(unit, null);
        holds("rule 11: some twelve classes: " + classes, classes <= 12);
        for (Element method : calls.keySet()) {
            int deep = deep(method, new HashMap<>());
            holds("rule 11: calls eight deep: " + method + " goes " + deep, deep <= 8);
        }
    }

    private void holds(String what, boolean is) {
        check.due(what, is ? 1 : 0, 1);
    }

    private String at(Tree tree) {
        return "line " + line(trees.getSourcePositions().getStartPosition(unit, tree)) + ": ";
    }

    private long line(long place) {
        return unit.getLineMap().getLineNumber(place);
    }

    @Override
    public Void scan(Tree tree, Void nothing) {
        if (tree != null) {
            holds(at(tree) + "rules 2, 3, 6: " + tree.getKind(), !RULED_OUT.contains(tree.getKind()));
        }
        return super.scan(tree, nothing);
    }

    @Override
    public Void visitClass(ClassTree tree, Void nothing) {
        classes++;
        Tree around = getCurrentPath().getParentPath().getLeaf();
        Element element = trees.getElement(getCurrentPath());
        boolean inside = around instanceof ClassTree;
        holds(at(tree) + "rule 2: a class in a class", inside || around == unit);
        holds(at(tree) + "rule 2: it is static, not public", !inside || element.getModifiers().contains(Modifier.STATIC)
                && !element.getModifiers().contains(Modifier.PUBLIC) && !element.getModifiers().contains(Modifier.PROTECTED));
        int fields = 0;
        for (Tree member : tree.getMembers()) {
            holds(at(member) + "rule 5: no initialiser block", !(member instanceof BlockTree));
            fields += member instanceof VariableTree && !isStatic((VariableTree) member) ? 1 : 0;
        }
        holds(at(tree) + "rule 11: some twenty fields: " + fields, fields <= 20);
        return super.visitClass(tree, nothing);
    }

    private static boolean isStatic(VariableTree tree) {
        return tree.getModifiers().getFlags().contains(Modifier.STATIC);
    }

    @Override
    public Void visitVariable(VariableTree tree, Void nothing) {
        String type = String.valueOf(trees.getElement(getCurrentPath()).asType());
        holds(at(tree) + "rule 5: static fields are final constants", !isStatic(tree)
                || tree.getModifiers().getFlags().contains(Modifier.FINAL) && CONSTANT_TYPES.contains(type));
        return super.visitVariable(tree, nothing);
    }

    @Override
    public Void visitMethod(MethodTree tree, Void nothing) {
        Element method = trees.getElement(getCurrentPath());
        calls.put(method, new LinkedHashSet<>());
        boolean isPublic = method.getModifiers().contains(Modifier.PUBLIC);
        holds(at(tree) + "rule 1: a name of the face for " + method, isPublic || !face.contains(tree.getName().toString()));
        holds(at(tree) + "rule 11: seven parameters", tree.getParameters().size() <= 7);
        holds(at(tree) + "rule 6: " + tree.getName(),
                !Set.of("equals", "hashCode", "toString").contains(tree.getName().toString()));
        long lines = line(trees.getSourcePositions().getEndPosition(unit, tree))
                - line(trees.getSourcePositions().getStartPosition(unit, tree)) + 1;
        holds(at(tree) + "rule 11: some sixty lines: " + lines, lines <= 60);
        return super.visitMethod(tree, nothing);
    }

    @Override
    public Void visitMethodInvocation(MethodInvocationTree tree, Void nothing) {
        Element called = trees.getElement(new TreePath(getCurrentPath(), tree.getMethodSelect()));
        String owner = String.valueOf(called.getEnclosingElement());
        Element caller = caller();
        if (owner.startsWith("BeforeItGoes")) {
            if (caller != null) {
                calls.get(caller).add(called);
            }
        } else {
            String name = owner + "." + called.getSimpleName();
            holds(at(tree) + "rule 4: " + name, LIBRARY.contains(name) || name.equals("java.lang.Object.<init>"));
        }
        return super.visitMethodInvocation(tree, nothing);
    }

    private Element caller() {
        for (Tree tree : getCurrentPath()) {
            if (tree instanceof MethodTree) {
                return trees.getElement(trees.getPath(unit, tree));
            }
        }
        return null;
    }

    @Override
    public Void visitNewClass(NewClassTree tree, Void nothing) {
        made(tree);
        return super.visitNewClass(tree, nothing);
    }

    @Override
    public Void visitNewArray(NewArrayTree tree, Void nothing) {
        made(tree);
        return super.visitNewArray(tree, nothing);
    }

    /** All rows are made with the object, so that no run of calls can fill the room. */
    private void made(Tree tree) {
        Element caller = caller();
        holds(at(tree) + "rule 12: made by a constructor", caller == null || caller.getKind() == ElementKind.CONSTRUCTOR);
    }

    @Override
    public Void visitBinary(BinaryTree tree, Void nothing) {
        boolean number = trees.getTypeMirror(getCurrentPath()).getKind() != TypeKind.DECLARED;
        holds(at(tree) + "rule 10: no texts joined by +", number);
        return super.visitBinary(tree, nothing);
    }

    /** How many calls stand open at most from a method on; what calls itself, by others too, is recursion. */
    private int deep(Element method, Map<Element, Integer> known) {
        Integer was = known.get(method);
        if (was != null) {
            return was;
        }
        int most = 0;
        for (Element called : calls.getOrDefault(method, Set.of())) {
            boolean recursion = reaches(called, method, new HashSet<>());
            most = recursion ? most : Math.max(most, deep(called, known));
        }
        known.put(method, most + 1);
        return most + 1;
    }

    private boolean reaches(Element from, Element to, Set<Element> seen) {
        if (from.equals(to)) {
            return true;
        }
        if (!seen.add(from)) {
            return false;
        }
        for (Element called : calls.getOrDefault(from, Set.of())) {
            if (reaches(called, to, seen)) {
                return true;
            }
        }
        return false;
    }
}
