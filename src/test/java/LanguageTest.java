import com.sun.source.tree.BinaryTree;
import com.sun.source.tree.ClassTree;
import com.sun.source.tree.CompilationUnitTree;
import com.sun.source.tree.DoWhileLoopTree;
import com.sun.source.tree.ForLoopTree;
import com.sun.source.tree.IdentifierTree;
import com.sun.source.tree.LineMap;
import com.sun.source.tree.LiteralTree;
import com.sun.source.tree.MemberSelectTree;
import com.sun.source.tree.MethodInvocationTree;
import com.sun.source.tree.MethodTree;
import com.sun.source.tree.NewClassTree;
import com.sun.source.tree.Tree;
import com.sun.source.tree.VariableTree;
import com.sun.source.tree.WhileLoopTree;
import com.sun.source.util.JavacTask;
import com.sun.source.util.SourcePositions;
import com.sun.source.util.TreePath;
import com.sun.source.util.TreePathScanner;
import com.sun.source.util.Trees;
import java.nio.charset.StandardCharsets;
import java.nio.file.Path;
import java.util.EnumSet;
import java.util.HashMap;
import java.util.HashSet;
import java.util.List;
import java.util.Map;
import java.util.Set;
import java.util.TreeMap;
import java.util.TreeSet;
import javax.lang.model.element.Element;
import javax.lang.model.element.ElementKind;
import javax.lang.model.element.ExecutableElement;
import javax.lang.model.element.Modifier;
import javax.lang.model.element.TypeElement;
import javax.lang.model.type.TypeKind;
import javax.lang.model.type.TypeMirror;
import javax.tools.JavaCompiler;
import javax.tools.StandardJavaFileManager;
import javax.tools.ToolProvider;

/**
 * The rules of ../shared/LANGUAGE.md that show in the class's text, by the compiler's own tree of it.
 * Two are held more strictly than they are told: all loops are `for` with their bound in their head,
 * and no pattern or list of the library is used at all.
 */
public final class LanguageTest {
    private static final int MOST_LINES = 60;
    private static final int MOST_PARAMETERS = 7;
    private static final int MOST_CALLS_DEEP = 8;
    private static final int MOST_CLASSES = 12;
    private static final int MOST_FIELDS = 20;

    /** Rules 2, 6 and 10: what may not stand anywhere. */
    private static final Set<Tree.Kind> BARRED = EnumSet.of(Tree.Kind.LAMBDA_EXPRESSION, Tree.Kind.MEMBER_REFERENCE,
        Tree.Kind.THROW, Tree.Kind.TRY, Tree.Kind.CATCH, Tree.Kind.SYNCHRONIZED, Tree.Kind.ASSERT, Tree.Kind.IMPORT,
        Tree.Kind.ANNOTATION, Tree.Kind.PACKAGE);

    /** Rule 4: the library. Of Integer, Long and Math: what does not end in Exact. */
    private static final Map<String, Set<String>> LIBRARY = Map.of(
        "java.lang.String", Set.of("length", "charAt", "isEmpty", "equals", "indexOf", "substring", "toCharArray"),
        "java.lang.StringBuilder", Set.of("append", "charAt", "setCharAt", "setLength", "deleteCharAt", "reverse", "length", "toString"),
        "java.lang.System", Set.of("arraycopy"),
        "java.util.Arrays", Set.of("copyOf", "copyOfRange", "fill"));
    private static final Set<String> NUMBER_FUNCTIONS = Set.of("java.lang.Integer", "java.lang.Long", "java.lang.Math");

    /** Rule 5. */
    private static final Set<String> CONSTANT_TYPES = Set.of("int", "long", "boolean", "char", "java.lang.String",
        "int[]", "long[]", "char[]", "byte[]");

    private final Trees trees;
    private final SourcePositions places;
    private final CompilationUnitTree unit;
    private final LineMap lines;
    private final Set<String> face = new TreeSet<>();
    private final Map<String, Set<String>> calls = new TreeMap<>();
    private final Map<String, MethodTree> methods = new HashMap<>();
    private final Map<String, Integer> depths = new HashMap<>();
    private int classes = 0;

    private LanguageTest(JavacTask task, CompilationUnitTree unit) {
        trees = Trees.instance(task);
        places = trees.getSourcePositions();
        this.unit = unit;
        lines = unit.getLineMap();
    }

    private long line(Tree tree) {
        return lines.getLineNumber(places.getStartPosition(unit, tree));
    }

    private void isTrue(int rule, Tree tree, String what, boolean holds) {
        Check.due("rule " + rule + ", line " + line(tree) + ": " + what, holds, true);
    }

    private static String nameOf(Element method) {
        return method.getEnclosingElement().getSimpleName() + "." + method.getSimpleName()
            + ((ExecutableElement) method).getParameters().size();
    }

    private static boolean isOwn(Element e) {
        return e != null && e.toString() != null && outermost(e).getQualifiedName().contentEquals("OutOfPawn");
    }

    private static TypeElement outermost(Element e) {
        Element at = e;
        while (at.getEnclosingElement() != null && at.getEnclosingElement().getKind() != ElementKind.PACKAGE) {
            at = at.getEnclosingElement();
        }
        return (TypeElement) at;
    }

    /** All that one look through the tree sees. */
    private final class Look extends TreePathScanner<Void, Void> {
        private String method = "";

        @Override
        public Void scan(Tree tree, Void none) {
            if (tree != null) {
                isTrue(6, tree, tree.getKind() + " stands there", !BARRED.contains(tree.getKind()));
            }
            return super.scan(tree, none);
        }

        private Element element() {
            return trees.getElement(getCurrentPath());
        }

        private TypeMirror type(Tree tree) {
            return trees.getTypeMirror(new TreePath(getCurrentPath(), tree));
        }

        @Override
        public Void visitClass(ClassTree tree, Void none) {
            classes++;
            Set<Modifier> flags = tree.getModifiers().getFlags();
            boolean isOuter = tree.getSimpleName().contentEquals("OutOfPawn");
            isTrue(1, tree, "public and final", !isOuter || flags.containsAll(Set.of(Modifier.PUBLIC, Modifier.FINAL)));
            boolean isInside = flags.contains(Modifier.STATIC) && !flags.contains(Modifier.PUBLIC) && !flags.contains(Modifier.PROTECTED);
            isTrue(2, tree, tree.getSimpleName() + " is static and not public", isOuter || isInside);
            isTrue(2, tree, "in the class or alone", getCurrentPath().getParentPath().getLeaf().getKind()
                == (isOuter ? Tree.Kind.COMPILATION_UNIT : Tree.Kind.CLASS));
            isTrue(12, tree, tree.getSimpleName() + " is final", flags.contains(Modifier.FINAL));
            long fields = tree.getMembers().stream().filter(m -> m instanceof VariableTree
                && !((VariableTree) m).getModifiers().getFlags().contains(Modifier.STATIC)).count();
            isTrue(11, tree, fields + " fields in " + tree.getSimpleName(), fields <= MOST_FIELDS);
            return super.visitClass(tree, none);
        }

        @Override
        public Void visitVariable(VariableTree tree, Void none) {
            Set<Modifier> flags = tree.getModifiers().getFlags();
            TypeMirror type = element().asType();
            isTrue(3, tree, "the type " + type, isTypeOfRules(type));
            if (flags.contains(Modifier.STATIC)) {
                isTrue(5, tree, "a constant " + tree.getName(), flags.contains(Modifier.FINAL)
                    && CONSTANT_TYPES.contains(type.toString()) && tree.getInitializer() != null);
            }
            return super.visitVariable(tree, none);
        }

        private boolean isTypeOfRules(TypeMirror type) {
            if (type.getKind().isPrimitive()) {
                return true;
            }
            if (type.getKind() == TypeKind.ARRAY) {
                return type.toString().chars().filter(c -> c == '[').count() == 1;
            }
            String name = type.toString();
            return name.startsWith("OutOfPawn") || name.equals("java.lang.String") || name.equals("java.lang.StringBuilder");
        }

        @Override
        public Void visitMethod(MethodTree tree, Void none) {
            String outer = method;
            method = nameOf(element());
            methods.put(method, tree);
            isTrue(11, tree, "two methods named " + method, calls.put(method, new TreeSet<>()) == null);
            Set<Modifier> flags = tree.getModifiers().getFlags();
            if (flags.contains(Modifier.PUBLIC)) {
                face.add(tree.getName().toString());
            }
            isTrue(11, tree, "parameters of " + method, tree.getParameters().size() <= MOST_PARAMETERS);
            long length = lines.getLineNumber(places.getEndPosition(unit, tree)) - line(tree) + 1;
            isTrue(11, tree, length + " lines of " + method, length <= MOST_LINES);
            isTrue(6, tree, method, !List.of("equals", "hashCode", "toString").contains(tree.getName().toString()));
            super.visitMethod(tree, none);
            method = outer;
            return null;
        }

        @Override
        public Void visitMethodInvocation(MethodInvocationTree tree, Void none) {
            Element called = element();
            String name = called.getSimpleName().toString();
            if (isOwn(called)) {
                if (!name.equals("<init>")) {
                    calls.get(method).add(nameOf(called));
                }
            } else if (!name.equals("<init>")) {
                String type = called.getEnclosingElement().toString();
                boolean isNumbers = NUMBER_FUNCTIONS.contains(type) && !name.endsWith("Exact")
                    && called.getModifiers().contains(Modifier.STATIC);
                isTrue(4, tree, type + "." + name, isNumbers || LIBRARY.getOrDefault(type, Set.of()).contains(name));
            }
            return super.visitMethodInvocation(tree, none);
        }

        @Override
        public Void visitNewClass(NewClassTree tree, Void none) {
            isTrue(2, tree, "no class without a name", tree.getClassBody() == null);
            isTrue(3, tree, "new " + tree.getIdentifier(), isOwn(element()));
            if (isOwn(element())) {
                calls.get(method).add(nameOf(element()));
            }
            return super.visitNewClass(tree, none);
        }

        @Override
        public Void visitIdentifier(IdentifierTree tree, Void none) {
            boolean isHandedOut = tree.getName().contentEquals("this")
                && !(getCurrentPath().getParentPath().getLeaf() instanceof MemberSelectTree);
            isTrue(12, tree, "the object itself is handed out", !isHandedOut);
            return super.visitIdentifier(tree, none);
        }

        @Override
        public Void visitLiteral(LiteralTree tree, Void none) {
            if (tree.getValue() instanceof String) {
                isTrue(4, tree, "signs from 1 to 127", ((String) tree.getValue()).chars().allMatch(c -> c >= 1 && c <= 127));
            }
            return super.visitLiteral(tree, none);
        }

        @Override
        public Void visitBinary(BinaryTree tree, Void none) {
            String left = String.valueOf(type(tree.getLeftOperand()));
            String right = String.valueOf(type(tree.getRightOperand()));
            Set<String> texts = Set.of("java.lang.String", "java.lang.Integer");
            boolean ofTexts = texts.contains(left) || texts.contains(right);
            isTrue(tree.getKind() == Tree.Kind.PLUS ? 10 : 6, tree, tree.getKind() + " of texts", !ofTexts);
            return super.visitBinary(tree, none);
        }

        @Override
        public Void visitForLoop(ForLoopTree tree, Void none) {
            isTrue(9, tree, "a bound and a step", tree.getCondition() != null && !tree.getUpdate().isEmpty()
                && tree.getCondition().toString().matches(".*(<|>|<=|>=) .*"));
            return super.visitForLoop(tree, none);
        }

        @Override
        public Void visitWhileLoop(WhileLoopTree tree, Void none) {
            isTrue(9, tree, "no end can be seen", false);
            return super.visitWhileLoop(tree, none);
        }

        @Override
        public Void visitDoWhileLoop(DoWhileLoopTree tree, Void none) {
            isTrue(9, tree, "no end can be seen", false);
            return super.visitDoWhileLoop(tree, none);
        }
    }

    // ---- calls within calls ----

    private Set<String> reached(String from) {
        Set<String> seen = new HashSet<>();
        List<String> open = new java.util.ArrayList<>(calls.get(from));
        while (!open.isEmpty()) {
            String next = open.remove(open.size() - 1);
            if (seen.add(next)) {
                open.addAll(calls.getOrDefault(next, Set.of()));
            }
        }
        return seen;
    }

    /** Methods that call one another count as one. */
    private int depth(String method) {
        Integer known = depths.get(method);
        if (known != null) {
            return known;
        }
        Set<String> circle = new TreeSet<>(Set.of(method));
        for (String other : reached(method)) {
            if (calls.containsKey(other) && reached(other).contains(method)) {
                circle.add(other);
            }
        }
        int deepest = 0;
        for (String one : circle) {
            for (String called : calls.getOrDefault(one, Set.of())) {
                deepest = Math.max(deepest, circle.contains(called) ? 0 : depth(called));
            }
        }
        for (String one : circle) {
            depths.put(one, deepest + 1);
        }
        return deepest + 1;
    }

    private void afterwards() {
        Check.due("rule 11: classes", classes - 1 <= MOST_CLASSES, true);
        Check.due("all methods were found: " + methods.size(), methods.size() > 130, true);
        for (String method : calls.keySet()) {
            MethodTree tree = methods.get(method);
            isTrue(11, tree, method + " goes " + depth(method) + " calls deep", depth(method) <= MOST_CALLS_DEEP);
            boolean carriesDepth = tree.getParameters().stream().anyMatch(p -> p.getName().contentEquals("depth"));
            isTrue(8, tree, method + " calls itself without its depth", carriesDepth || !reached(method).contains(method));
            boolean isPrivate = tree.getModifiers().getFlags().contains(Modifier.PRIVATE);
            isTrue(1, tree, method + " is private and bears a public one's name", !isPrivate || !face.contains(tree.getName().toString()));
        }
    }

    public static void main(String[] args) throws Exception {
        JavaCompiler compiler = ToolProvider.getSystemJavaCompiler();
        StandardJavaFileManager files = compiler.getStandardFileManager(null, null, StandardCharsets.ISO_8859_1);
        JavacTask task = (JavacTask) compiler.getTask(null, files, null, List.of("-proc:none"), null,
            files.getJavaFileObjects(Path.of("src/main/java/OutOfPawn.java")));
        CompilationUnitTree unit = task.parse().iterator().next();
        task.analyze();
        Check.due("one class in the file", unit.getTypeDecls().size(), 1);
        LanguageTest test = new LanguageTest(task, unit);
        test.new Look().scan(unit, null);
        test.afterwards();
        Check.finish("LanguageTest");
    }
}
