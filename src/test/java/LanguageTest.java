import com.sun.source.tree.ArrayAccessTree;
import com.sun.source.tree.AssertTree;
import com.sun.source.tree.BinaryTree;
import com.sun.source.tree.CatchTree;
import com.sun.source.tree.ClassTree;
import com.sun.source.tree.CompilationUnitTree;
import com.sun.source.tree.ImportTree;
import com.sun.source.tree.LambdaExpressionTree;
import com.sun.source.tree.MemberReferenceTree;
import com.sun.source.tree.MethodInvocationTree;
import com.sun.source.tree.MethodTree;
import com.sun.source.tree.NewArrayTree;
import com.sun.source.tree.NewClassTree;
import com.sun.source.tree.SynchronizedTree;
import com.sun.source.tree.ThrowTree;
import com.sun.source.tree.Tree;
import com.sun.source.tree.TryTree;
import com.sun.source.tree.VariableTree;
import com.sun.source.util.JavacTask;
import com.sun.source.util.TreePath;
import com.sun.source.util.TreePathScanner;
import com.sun.source.util.Trees;
import java.io.File;
import java.lang.reflect.Constructor;
import java.lang.reflect.Field;
import java.lang.reflect.Method;
import java.lang.reflect.Modifier;
import java.util.ArrayList;
import java.util.HashSet;
import java.util.LinkedHashMap;
import java.util.LinkedHashSet;
import java.util.List;
import java.util.Map;
import java.util.Set;
import java.util.TreeSet;
import javax.lang.model.element.Element;
import javax.lang.model.element.ElementKind;
import javax.tools.JavaCompiler;
import javax.tools.StandardJavaFileManager;
import javax.tools.ToolProvider;

/**
 * The rules of LANGUAGE.md that can be read off the source. Where the source has a class Row, its two
 * promises are looked at, too: arrays are touched in it alone, and no call makes an object.
 */
public final class LanguageTest {
    private static final Set<String> FACE = Set.of("publish", "compare", "yank", "setPlatforms", "bring",
        "range", "join", "has", "need", "demand", "advise", "mending", "replace", "setPlatform", "solve",
        "chosen", "chosenAnew", "features", "solutions", "why", "against", "lock", "unlock", "install",
        "spoil", "onDisk", "pending");
    private static final Map<String, Set<String>> LIBRARY = Map.of(
        "String", Set.of("length", "charAt", "isEmpty", "equals", "indexOf", "substring", "toCharArray"),
        "StringBuilder", Set.of("append", "charAt", "setCharAt", "setLength", "deleteCharAt", "reverse", "length",
            "toString"),
        "ArrayList", Set.of("add", "get", "set", "remove", "size", "isEmpty", "clear"),
        "List", Set.of("add", "get", "set", "remove", "size", "isEmpty", "clear", "of"),
        "Iterator", Set.of("hasNext", "next"),
        "Iterable", Set.of("iterator"),
        "Comparable", Set.of("compareTo"),
        "System", Set.of("arraycopy"),
        "Arrays", Set.of("copyOf", "copyOfRange", "fill"),
        "Enum", Set.of("ordinal"));
    private static final Set<String> NUMBERS = Set.of("Integer", "Long", "Math");
    private static final Set<String> IMPORTS = Set.of("java.util.Arrays", "java.util.ArrayList", "java.util.List",
        "java.util.Iterator", "java.util.NoSuchElementException");
    private static final Set<String> EXCEPTIONS = Set.of("IllegalStateException", "IllegalArgumentException",
        "IndexOutOfBoundsException", "ArithmeticException", "UnsupportedOperationException",
        "NoSuchElementException", "RuntimeException");
    private static final int CONSTANTS = 22;
    /** The rules say 'some twelve', 'some twenty' and 'some sixty'; above these it is not 'some' any more. */
    private static final int MOST_CLASSES = 14;
    private static final int MOST_FIELDS = 23;
    private static final int MOST_LINES = 70;
    private static final int MOST_PARAMETERS = 7;
    private static final int DEEPEST = 8;

    private final List<String> faults = new ArrayList<>();
    private final Map<String, Set<String>> calls = new LinkedHashMap<>();

    public static void main(String[] args) throws Exception {
        LanguageTest test = new LanguageTest();
        test.lookAtFace();
        test.lookAtSource(new File(args.length > 0 ? args[0] : "src/main/java/Resolverium.java"));
        test.lookAtDepths();
        for (String fault : test.faults) {
            System.out.println(fault);
        }
        System.out.println("the rules of the language: " + test.faults.size() + " faults");
        if (!test.faults.isEmpty()) {
            System.exit(1);
        }
    }

    private void must(boolean good, String fault) {
        if (!good) {
            faults.add(fault);
        }
    }

    private void lookAtFace() {
        Set<String> names = new TreeSet<>();
        for (Method method : Resolverium.class.getDeclaredMethods()) {
            if (!Modifier.isPrivate(method.getModifiers()) && !method.isSynthetic()) {
                names.add(method.getName());
                must(FACE.contains(method.getName()), method + " is not of the face");
                must(method.getModifiers() == Modifier.PUBLIC, method + " is not just public");
            } else {
                must(!FACE.contains(method.getName()), method + " bears a public method's name");
            }
        }
        must(names.equals(new TreeSet<>(FACE)), "the face's methods are " + names);
        int constants = 0;
        for (Field field : Resolverium.class.getDeclaredFields()) {
            boolean isPublic = Modifier.isPublic(field.getModifiers());
            must(isPublic || Modifier.isPrivate(field.getModifiers()), field + " is visible");
            constants += isPublic ? 1 : 0;
        }
        must(constants == CONSTANTS, constants + " constants are public");
        Constructor<?>[] constructors = Resolverium.class.getDeclaredConstructors();
        must(constructors.length == 1 && Modifier.isPublic(constructors[0].getModifiers()),
                "there is not just one public constructor");
        must(Modifier.isFinal(Resolverium.class.getModifiers()), "the class is not final");
    }

    private void lookAtSource(File file) throws Exception {
        JavaCompiler compiler = ToolProvider.getSystemJavaCompiler();
        try (StandardJavaFileManager files = compiler.getStandardFileManager(null, null, null)) {
            JavacTask task = (JavacTask) compiler.getTask(null, files, null, List.of("-proc:none"), null,
                    files.getJavaFileObjects(file));
            for (CompilationUnitTree unit : task.parse()) {
                task.analyze();
                Reader reader = new Reader(Trees.instance(task), unit);
                reader.scan(new TreePath(unit), null);
                must(unit.getPackageName() == null, "there is a package line");
                must(reader.classes <= MOST_CLASSES, reader.classes + " classes");
            }
        }
    }

    private void lookAtDepths() {
        Map<String, Integer> depths = new LinkedHashMap<>();
        for (String method : calls.keySet()) {
            depth(method, depths, new LinkedHashSet<>());
        }
        depths.forEach((method, depth) -> must(depth <= DEEPEST, method + " goes " + depth + " deep"));
    }

    /** How deep the calls go; a recursion, which has a rule of its own, counts once. */
    private int depth(String method, Map<String, Integer> depths, Set<String> open) {
        if (!open.add(method)) {
            return 0;
        }
        if (!depths.containsKey(method)) {
            int deepest = 0;
            for (String called : calls.getOrDefault(method, Set.of())) {
                deepest = Math.max(deepest, depth(called, depths, open));
            }
            depths.put(method, deepest + 1);
        }
        open.remove(method);
        return depths.get(method);
    }

    /** Goes through the source once. */
    private final class Reader extends TreePathScanner<Void, Void> {
        private final Trees trees;
        private final CompilationUnitTree unit;
        private final boolean hasRow;
        private int classes;

        Reader(Trees newTrees, CompilationUnitTree newUnit) {
            trees = newTrees;
            unit = newUnit;
            hasRow = newUnit.toString().contains("class Row ");
        }

        private long line(Tree tree) {
            return unit.getLineMap().getLineNumber(trees.getSourcePositions().getStartPosition(unit, tree));
        }

        private long lastLine(Tree tree) {
            return unit.getLineMap().getLineNumber(trees.getSourcePositions().getEndPosition(unit, tree));
        }

        private void fault(Tree tree, String what) {
            faults.add("line " + line(tree) + ": " + what);
        }

        private Tree above(Class<? extends Tree> kind) {
            for (TreePath path = getCurrentPath(); path != null; path = path.getParentPath()) {
                if (kind.isInstance(path.getLeaf())) {
                    return path.getLeaf();
                }
            }
            return null;
        }

        private String method() {
            MethodTree method = (MethodTree) above(MethodTree.class);
            ClassTree around = (ClassTree) above(ClassTree.class);
            return around.getSimpleName() + "." + (method == null ? "<init>" : method.getName());
        }

        @Override
        public Void visitImport(ImportTree tree, Void nothing) {
            must(IMPORTS.contains(tree.getQualifiedIdentifier().toString()), tree.toString());
            return super.visitImport(tree, nothing);
        }

        @Override
        public Void visitClass(ClassTree tree, Void nothing) {
            classes++;
            int fields = 0;
            for (Tree member : tree.getMembers()) {
                if (member instanceof VariableTree variable) {
                    boolean isStatic = isStatic(variable);
                    fields += isStatic ? 0 : 1;
                    must(!isStatic || variable.getModifiers().toString().contains("final"),
                            variable.getName() + " is static and not final");
                }
                must(member.getKind() != Tree.Kind.BLOCK, "an initialiser block");
            }
            must(fields <= MOST_FIELDS, tree.getSimpleName() + " has " + fields + " fields");
            return super.visitClass(tree, nothing);
        }

        private boolean isStatic(VariableTree variable) {
            return variable.getModifiers().getFlags()
                    .contains(javax.lang.model.element.Modifier.STATIC);
        }

        @Override
        public Void visitMethod(MethodTree tree, Void nothing) {
            long lines = lastLine(tree) - line(tree) + 1;
            must(lines <= MOST_LINES, tree.getName() + " has " + lines + " lines");
            must(tree.getParameters().size() <= MOST_PARAMETERS, tree.getName() + "'s parameters");
            calls.computeIfAbsent(method(), key -> new HashSet<>());
            return super.visitMethod(tree, nothing);
        }

        @Override
        public Void visitMethodInvocation(MethodInvocationTree tree, Void nothing) {
            Element element = trees.getElement(getCurrentPath());
            if (element != null && element.getKind() == ElementKind.METHOD) {
                String owner = element.getEnclosingElement().getSimpleName().toString();
                String name = owner + "." + element.getSimpleName();
                boolean isOwn = element.getEnclosingElement().toString().startsWith("Resolverium");
                if (!isOwn && !isOfLibrary(owner, element.getSimpleName().toString())) {
                    fault(tree, name + " is not of the library");
                }
                calls.computeIfAbsent(method(), key -> new HashSet<>()).add(name);
            }
            return super.visitMethodInvocation(tree, nothing);
        }

        private static boolean isOfLibrary(String owner, String name) {
            // The library itself declares some methods of StringBuilder in a class above it.
            String listed = owner.equals("AbstractStringBuilder") ? "StringBuilder" : owner;
            return LIBRARY.getOrDefault(listed, Set.of()).contains(name) || name.equals("clone")
                    || (NUMBERS.contains(owner) && !name.endsWith("Exact"));
        }

        @Override
        public Void visitNewClass(NewClassTree tree, Void nothing) {
            boolean isThrown = getCurrentPath().getParentPath().getLeaf() instanceof ThrowTree;
            if (!isThrown) {
                made(tree);
                Element made = trees.getElement(getCurrentPath());
                String name = made.getEnclosingElement().getSimpleName() + ".<init>";
                calls.computeIfAbsent(method(), key -> new HashSet<>()).add(name);
            }
            return super.visitNewClass(tree, nothing);
        }

        @Override
        public Void visitNewArray(NewArrayTree tree, Void nothing) {
            made(tree);
            return super.visitNewArray(tree, nothing);
        }

        private void made(Tree tree) {
            if (hasRow && !method().endsWith("<init>")) {
                fault(tree, "made outside of a constructor");
            }
        }

        @Override
        public Void visitArrayAccess(ArrayAccessTree tree, Void nothing) {
            if (hasRow && !method().startsWith("Row.")) {
                fault(tree, "an array outside of Row");
            }
            return super.visitArrayAccess(tree, nothing);
        }

        @Override
        public Void visitThrow(ThrowTree tree, Void nothing) {
            if (method().endsWith("<init>")) {
                fault(tree, "a throw in a constructor");
            }
            String thrown = tree.getExpression() instanceof NewClassTree made
                    ? made.getIdentifier().toString() : "something that is not new";
            if (!EXCEPTIONS.contains(thrown)) {
                fault(tree, thrown + " is thrown");
            }
            return super.visitThrow(tree, nothing);
        }

        @Override
        public Void visitBinary(BinaryTree tree, Void nothing) {
            String type = String.valueOf(trees.getTypeMirror(getCurrentPath()));
            if (type.equals("java.lang.String")) {
                fault(tree, "texts joined by +");
            }
            return super.visitBinary(tree, nothing);
        }

        @Override
        public Void visitLambdaExpression(LambdaExpressionTree tree, Void nothing) {
            fault(tree, "a lambda");
            return super.visitLambdaExpression(tree, nothing);
        }

        @Override
        public Void visitMemberReference(MemberReferenceTree tree, Void nothing) {
            fault(tree, "a method reference");
            return super.visitMemberReference(tree, nothing);
        }

        @Override
        public Void visitTry(TryTree tree, Void nothing) {
            if (tree.getFinallyBlock() != null || !tree.getResources().isEmpty()) {
                fault(tree, "a finally, or a try with resources");
            }
            return super.visitTry(tree, nothing);
        }

        @Override
        public Void visitCatch(CatchTree tree, Void nothing) {
            String caught = tree.getParameter().getType().toString();
            if (!EXCEPTIONS.contains(caught)) {
                fault(tree, caught + " is caught");
            }
            return super.visitCatch(tree, nothing);
        }

        @Override
        public Void visitSynchronized(SynchronizedTree tree, Void nothing) {
            fault(tree, "synchronized");
            return super.visitSynchronized(tree, nothing);
        }

        @Override
        public Void visitAssert(AssertTree tree, Void nothing) {
            fault(tree, "an assert");
            return super.visitAssert(tree, nothing);
        }
    }
}
