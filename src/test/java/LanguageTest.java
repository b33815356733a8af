import com.sun.source.tree.AssertTree;
import com.sun.source.tree.AssignmentTree;
import com.sun.source.tree.ClassTree;
import com.sun.source.tree.CompilationUnitTree;
import com.sun.source.tree.CompoundAssignmentTree;
import com.sun.source.tree.DoWhileLoopTree;
import com.sun.source.tree.ExpressionTree;
import com.sun.source.tree.ForLoopTree;
import com.sun.source.tree.IdentifierTree;
import com.sun.source.tree.ImportTree;
import com.sun.source.tree.LambdaExpressionTree;
import com.sun.source.tree.LiteralTree;
import com.sun.source.tree.MemberReferenceTree;
import com.sun.source.tree.MethodInvocationTree;
import com.sun.source.tree.MethodTree;
import com.sun.source.tree.NewArrayTree;
import com.sun.source.tree.NewClassTree;
import com.sun.source.tree.StatementTree;
import com.sun.source.tree.SynchronizedTree;
import com.sun.source.tree.ThrowTree;
import com.sun.source.tree.Tree;
import com.sun.source.tree.TryTree;
import com.sun.source.tree.UnaryTree;
import com.sun.source.tree.VariableTree;
import com.sun.source.tree.WhileLoopTree;
import com.sun.source.util.JavacTask;
import com.sun.source.util.SourcePositions;
import com.sun.source.util.TreePath;
import com.sun.source.util.TreePathScanner;
import com.sun.source.util.TreeScanner;
import com.sun.source.util.Trees;
import java.io.IOException;
import java.nio.file.Path;
import java.util.HashSet;
import java.util.LinkedHashMap;
import java.util.List;
import java.util.Map;
import java.util.Set;
import java.util.TreeSet;
import javax.lang.model.element.Element;
import javax.lang.model.element.ElementKind;
import javax.lang.model.element.Modifier;
import javax.lang.model.element.TypeElement;
import javax.lang.model.element.VariableElement;
import javax.lang.model.type.ArrayType;
import javax.lang.model.type.TypeKind;
import javax.lang.model.type.TypeMirror;
import javax.tools.JavaCompiler;
import javax.tools.StandardJavaFileManager;
import javax.tools.ToolProvider;

/**
 * The rules of LANGUAGE.md that can be seen in the source. Where the class needs less than a rule leaves (doubles, lists,
 * catches, objects made by calls), it is held to that less.
 */
public final class LanguageTest extends Bench {
    private static final Set<String> IMPORTS = Set.of("java.util.Arrays", "java.util.NoSuchElementException");
    private static final Set<String> EXCEPTIONS = Set.of("IndexOutOfBoundsException", "NoSuchElementException");
    private static final Map<String, Set<String>> LIBRARY = Map.of(
            "java.lang.System", Set.of("arraycopy"),
            "java.util.Arrays", Set.of("copyOf", "copyOfRange", "fill"),
            "java.lang.Math", Set.of("max", "min", "abs", "floorDiv", "floorMod"),
            "java.lang.Integer", Set.of("bitCount", "compare", "max", "min"),
            "java.lang.Long", Set.of("bitCount", "compare", "max", "min"),
            "java.lang.Object", Set.of("<init>"));

    private final Trees trees;
    private final SourcePositions positions;
    private final CompilationUnitTree unit;
    private final Map<String, Set<String>> calls = new LinkedHashMap<>();
    private final Set<String> face = new TreeSet<>();
    private int classes = 0;

    private LanguageTest(JavacTask task, CompilationUnitTree unit) {
        this.trees = Trees.instance(task);
        this.positions = trees.getSourcePositions();
        this.unit = unit;
    }

    private long line(long place) {
        return unit.getLineMap().getLineNumber(place);
    }

    private void due(int rule, String words, Tree tree, boolean held) {
        due("rule " + rule, words + ", line " + line(positions.getStartPosition(unit, tree)), held, true);
    }

    private static boolean isOwn(TypeElement type) {
        return type.getQualifiedName().toString().startsWith("LatchTimes");
    }

    private static String nameOf(Element method) {
        return method.getEnclosingElement().getSimpleName() + "." + method.getSimpleName();
    }

    private static boolean isNumber(TypeMirror type) {
        return type.getKind() == TypeKind.INT || type.getKind() == TypeKind.LONG;
    }

    private boolean isAllowed(TypeMirror type) {
        if (type.getKind() == TypeKind.ARRAY) {
            return isNumber(((ArrayType) type).getComponentType());
        }
        boolean plain = isNumber(type) || type.getKind() == TypeKind.BOOLEAN || type.getKind() == TypeKind.VOID;
        return plain || type.toString().startsWith("LatchTimes");
    }

    /** Whether a loop's lines change something that its condition names. */
    private static boolean seesItsEnd(ExpressionTree condition, List<? extends Tree> lines) {
        Set<String> named = new HashSet<>();
        Set<String> changed = new HashSet<>();
        new TreeScanner<Void, Void>() {
            @Override
            public Void visitIdentifier(IdentifierTree tree, Void v) {
                named.add(tree.getName().toString());
                return null;
            }
        }.scan(condition, null);
        new TreeScanner<Void, Void>() {
            @Override
            public Void visitUnary(UnaryTree tree, Void v) {
                changed.add(tree.getExpression().toString());
                return super.visitUnary(tree, v);
            }

            @Override
            public Void visitAssignment(AssignmentTree tree, Void v) {
                changed.add(tree.getVariable().toString());
                return super.visitAssignment(tree, v);
            }

            @Override
            public Void visitCompoundAssignment(CompoundAssignmentTree tree, Void v) {
                changed.add(tree.getVariable().toString());
                return super.visitCompoundAssignment(tree, v);
            }
        }.scan(lines, null);
        named.retainAll(changed);
        return !named.isEmpty();
    }

    private final class Scanner extends TreePathScanner<Void, Void> {
        private Element element() {
            return trees.getElement(getCurrentPath());
        }

        private MethodTree methodAround() {
            for (TreePath p = getCurrentPath(); p != null; p = p.getParentPath()) {
                if (p.getLeaf() instanceof MethodTree m) {
                    return m;
                }
            }
            return null;
        }

        private boolean isInConstructor() {
            MethodTree method = methodAround();
            return method == null || method.getReturnType() == null;
        }

        @Override
        public Void visitImport(ImportTree tree, Void v) {
            due(4, "import of what is listed", tree, IMPORTS.contains(tree.getQualifiedIdentifier().toString()));
            return null;
        }

        @Override
        public Void visitClass(ClassTree tree, Void v) {
            classes++;
            Set<Modifier> modifiers = tree.getModifiers().getFlags();
            if (getCurrentPath().getParentPath().getLeaf() != unit) {
                due(1, "a class inside is static and not public", tree, modifiers.contains(Modifier.STATIC)
                        && !modifiers.contains(Modifier.PUBLIC) && !modifiers.contains(Modifier.PROTECTED));
                due(2, "no class in a method", tree, methodAround() == null);
            }
            int fields = 0;
            for (Tree member : tree.getMembers()) {
                boolean field = member instanceof VariableTree;
                fields += field && !((VariableTree) member).getModifiers().getFlags().contains(Modifier.STATIC) ? 1 : 0;
                due(5, "no block but a method's", member, member.getKind() != Tree.Kind.BLOCK);
            }
            due(11, "some twenty fields, not " + fields, tree, fields <= 20);
            return super.visitClass(tree, v);
        }

        @Override
        public Void visitVariable(VariableTree tree, Void v) {
            VariableElement variable = (VariableElement) element();
            due(3, "type of " + tree.getName(), tree, isAllowed(variable.asType()));
            if (variable.getModifiers().contains(Modifier.STATIC)) {
                due(5, "a constant: " + tree.getName(), tree, variable.getConstantValue() != null);
            }
            return super.visitVariable(tree, v);
        }

        @Override
        public Void visitMethod(MethodTree tree, Void v) {
            Element method = element();
            boolean isPublic = method.getModifiers().contains(Modifier.PUBLIC);
            if (!isPublic && method.getKind() == ElementKind.METHOD) {
                due(1, "a face's name: " + tree.getName(), tree, !face.contains(tree.getName().toString()));
            }
            long lines = line(positions.getEndPosition(unit, tree)) - line(positions.getStartPosition(unit, tree)) + 1;
            due(11, "some sixty lines, not " + lines, tree, lines <= 60);
            due(11, "seven parameters", tree, tree.getParameters().size() <= 7);
            due(1, "one method of a name, so that depths can be told", tree,
                    method.getKind() == ElementKind.CONSTRUCTOR || calls.put(nameOf(method), new TreeSet<>()) == null);
            return super.visitMethod(tree, v);
        }

        @Override
        public Void visitMethodInvocation(MethodInvocationTree tree, Void v) {
            Element called = element();
            TypeElement owner = (TypeElement) called.getEnclosingElement();
            MethodTree around = methodAround();
            if (!isOwn(owner)) {
                Set<String> known = LIBRARY.getOrDefault(owner.getQualifiedName().toString(), Set.of());
                due(4, "the library: " + tree, tree, known.contains(called.getSimpleName().toString()));
            } else if (around != null && around.getReturnType() != null) {
                Element caller = trees.getElement(TreePath.getPath(unit, around));
                calls.get(nameOf(caller)).add(nameOf(called));
                boolean itself = caller.equals(called);
                boolean depth = around.getParameters().stream().anyMatch(p -> p.getName().contentEquals("depth"));
                due(8, "the depth is carried as an argument", tree, !itself || depth);
            }
            return super.visitMethodInvocation(tree, v);
        }

        @Override
        public Void visitThrow(ThrowTree tree, Void v) {
            MethodTree around = methodAround();
            due(6, "only cell() throws", tree, around != null && around.getName().contentEquals("cell"));
            boolean made = tree.getExpression() instanceof NewClassTree;
            due(6, "throw new", tree, made);
            if (made) {
                NewClassTree thrown = (NewClassTree) tree.getExpression();
                due(6, "what the document names", tree, EXCEPTIONS.contains(thrown.getIdentifier().toString()));
                due(6, "a written text", tree, thrown.getArguments().stream().allMatch(a -> a instanceof LiteralTree));
            }
            return super.visitThrow(tree, v);
        }

        @Override
        public Void visitNewClass(NewClassTree tree, Void v) {
            boolean thrown = getCurrentPath().getParentPath().getLeaf() instanceof ThrowTree;
            due(12, "objects are made with the object alone", tree, thrown || isInConstructor());
            return super.visitNewClass(tree, v);
        }

        @Override
        public Void visitNewArray(NewArrayTree tree, Void v) {
            due(12, "rows are made with the object alone", tree, isInConstructor());
            return super.visitNewArray(tree, v);
        }

        @Override
        public Void visitForLoop(ForLoopTree tree, Void v) {
            due(9, "an end of for", tree, tree.getCondition() != null && seesItsEnd(tree.getCondition(), tree.getUpdate()));
            return super.visitForLoop(tree, v);
        }

        @Override
        public Void visitWhileLoop(WhileLoopTree tree, Void v) {
            StatementTree body = tree.getStatement();
            due(9, "an end of while", tree, seesItsEnd(tree.getCondition(), List.of(body)));
            return super.visitWhileLoop(tree, v);
        }

        @Override
        public Void visitDoWhileLoop(DoWhileLoopTree tree, Void v) {
            due(9, "an end of do", tree, seesItsEnd(tree.getCondition(), List.of(tree.getStatement())));
            return super.visitDoWhileLoop(tree, v);
        }

        @Override
        public Void visitLambdaExpression(LambdaExpressionTree tree, Void v) {
            due(2, "no lambda", tree, false);
            return super.visitLambdaExpression(tree, v);
        }

        @Override
        public Void visitMemberReference(MemberReferenceTree tree, Void v) {
            due(2, "no method reference", tree, false);
            return super.visitMemberReference(tree, v);
        }

        @Override
        public Void visitTry(TryTree tree, Void v) {
            due(6, "nothing is caught", tree, false);
            return super.visitTry(tree, v);
        }

        @Override
        public Void visitSynchronized(SynchronizedTree tree, Void v) {
            due(6, "no synchronized", tree, false);
            return super.visitSynchronized(tree, v);
        }

        @Override
        public Void visitAssert(AssertTree tree, Void v) {
            due(6, "no assert", tree, false);
            return super.visitAssert(tree, v);
        }
    }

    /** How many calls stand open at most, this one counted; a method that calls itself counts once. */
    private int depthFrom(String method, Set<String> open) {
        int deepest = 0;
        open.add(method);
        for (String called : calls.getOrDefault(method, Set.of())) {
            if (!called.equals(method)) {
                due("rule 8", method + " calls " + called + ", which stands open", open.contains(called), false);
                deepest = Math.max(deepest, open.contains(called) ? 0 : depthFrom(called, open));
            }
        }
        open.remove(method);
        return deepest + 1;
    }

    private void look() {
        for (java.lang.reflect.Method m : LatchTimes.class.getDeclaredMethods()) {
            if (java.lang.reflect.Modifier.isPublic(m.getModifiers())) {
                face.add(m.getName());
            }
        }
        due("rule 1", "no package line", unit.getPackageName() == null, true);
        new Scanner().scan(unit, null);
        due("rule 11", "some twelve classes, not " + classes, classes <= 12, true);
        for (String name : face) {
            int depth = depthFrom("LatchTimes." + name, new HashSet<>());
            due("rule 11", name + " goes eight deep, not " + depth, depth <= 8, true);
        }
    }

    public static void main(String[] args) throws IOException {
        Path source = Path.of(args.length > 0 ? args[0] : "src/main/java/LatchTimes.java");
        JavaCompiler compiler = ToolProvider.getSystemJavaCompiler();
        try (StandardJavaFileManager files = compiler.getStandardFileManager(null, null, null)) {
            JavacTask task = (JavacTask) compiler.getTask(null, files, null, List.of("-proc:none"), null,
                    files.getJavaFileObjects(source));
            CompilationUnitTree unit = task.parse().iterator().next();
            task.analyze();
            new LanguageTest(task, unit).look();
        }
        endOfTest();
    }
}
