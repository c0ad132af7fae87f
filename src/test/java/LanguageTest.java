import com.sun.source.tree.*;
import com.sun.source.util.JavacTask;
import com.sun.source.util.SourcePositions;
import com.sun.source.util.TreePath;
import com.sun.source.util.TreePathScanner;
import com.sun.source.util.Trees;
import java.io.File;
import java.util.ArrayList;
import java.util.Arrays;
import java.util.HashMap;
import java.util.HashSet;
import java.util.List;
import java.util.Map;
import java.util.Set;
import java.util.TreeSet;
import javax.lang.model.element.Element;
import javax.lang.model.element.ElementKind;
import javax.lang.model.element.ExecutableElement;
import javax.lang.model.element.Modifier;
import javax.lang.model.element.VariableElement;
import javax.lang.model.type.ArrayType;
import javax.lang.model.type.TypeKind;
import javax.tools.JavaCompiler;
import javax.tools.StandardJavaFileManager;
import javax.tools.ToolProvider;

/** The rules of LANGUAGE.md that can be read off the source. */
public final class LanguageTest {
    private static final Set<String> FACE = new TreeSet<>(Arrays.asList("NONE", "UNKNOWN", "OUTSIDE", "STATE",
        "FULL", "<init>", "letter", "blank", "fault", "run", "local", "send", "receive", "back", "event", "order",
        "cut", "value", "under", "meet", "join", "lattice", "level", "wish", "allow", "wished", "around", "least",
        "strong", "interval", "lean", "play", "played", "shot", "shots", "count", "digest"));
    /** The library calls in use; a new one is looked up in rule 4 before it is put here. */
    private static final Set<String> LIBRARY = new HashSet<>(Arrays.asList("java.util.Arrays.fill",
        "java.lang.Math.max", "java.lang.Math.min", "java.lang.Integer.bitCount"));
    /** Some of these the rules allow within bounds that this test does not know; the class needs none of them. */
    private static final Set<Tree.Kind> FORBIDDEN = new HashSet<>(Arrays.asList(Tree.Kind.THROW, Tree.Kind.TRY,
        Tree.Kind.CATCH, Tree.Kind.SYNCHRONIZED, Tree.Kind.ASSERT, Tree.Kind.LAMBDA_EXPRESSION,
        Tree.Kind.MEMBER_REFERENCE, Tree.Kind.SWITCH_EXPRESSION, Tree.Kind.STRING_LITERAL, Tree.Kind.INSTANCE_OF,
        Tree.Kind.FLOAT_LITERAL, Tree.Kind.DOUBLE_LITERAL, Tree.Kind.NULL_LITERAL, Tree.Kind.ANNOTATION,
        Tree.Kind.INTERFACE, Tree.Kind.ENUM, Tree.Kind.RECORD));

    private static int looked = 0;

    private static void demand(boolean holds, String rule) {
        looked++;
        if (!holds) Due.due(rule, 0, 1);
    }

    public static void main(String[] args) throws Exception {
        JavaCompiler compiler = ToolProvider.getSystemJavaCompiler();
        StandardJavaFileManager files = compiler.getStandardFileManager(null, null, null);
        JavacTask task = (JavacTask) compiler.getTask(null, files, null, Arrays.asList("-proc:none"), null,
            files.getJavaFileObjects(new File("src/main/java/RunCuts.java")));
        CompilationUnitTree unit = task.parse().iterator().next();
        task.analyze();
        demand(unit.getPackageName() == null, "no package");
        demand(unit.getTypeDecls().size() == 1, "one class in the file");
        for (ImportTree line : unit.getImports()) {
            demand(line.getQualifiedIdentifier().toString().equals("java.util.Arrays"), "imports " + line);
        }
        for (char c : unit.getSourceFile().getCharContent(true).toString().toCharArray()) {
            if (c > 126) demand(false, "rule 4: the sign " + (int) c);
        }
        Reader reader = new Reader(unit, Trees.instance(task));
        reader.scan(unit, null);
        demand(reader.classes <= 12, "rule 11: " + reader.classes + " classes");
        demand(reader.face.equals(FACE), "rule 1: the face is " + reader.face);
        for (ExecutableElement method : reader.calls.keySet()) {
            int depth = reader.depth(method, new ArrayList<>());
            demand(depth <= 8, "rule 11: " + method + " goes " + depth + " deep");
        }
        Due.due("rules broken", 0, 0);
        System.out.println(looked + " places looked at");
        Due.end();
    }

    private static final class Reader extends TreePathScanner<Void, Void> {
        final Set<String> face = new TreeSet<>();
        final Map<ExecutableElement, Set<ExecutableElement>> calls = new HashMap<>();
        private final CompilationUnitTree unit;
        private final Trees trees;
        private final SourcePositions positions;
        private ExecutableElement caller = null;
        private int classes = 0;

        Reader(CompilationUnitTree unit, Trees trees) {
            this.unit = unit;
            this.trees = trees;
            positions = trees.getSourcePositions();
        }

        private long line(long position) {
            return unit.getLineMap().getLineNumber(position);
        }

        private Element element(Tree tree) {
            return trees.getElement(TreePath.getPath(unit, tree));
        }

        @Override public Void scan(Tree tree, Void nothing) {
            if (tree != null && FORBIDDEN.contains(tree.getKind())) {
                demand(false, "line " + line(positions.getStartPosition(unit, tree)) + ": " + tree.getKind());
            }
            return super.scan(tree, nothing);
        }

        @Override public Void visitClass(ClassTree tree, Void nothing) {
            classes++;
            Set<Modifier> flags = tree.getModifiers().getFlags();
            boolean outer = getCurrentPath().getParentPath().getLeaf() == unit;
            if (outer) {
                demand(flags.contains(Modifier.PUBLIC) && flags.contains(Modifier.FINAL), "rule 1: public, final");
            } else {
                demand(flags.contains(Modifier.STATIC) && !flags.contains(Modifier.PUBLIC), "rule 2: static");
            }
            int fields = 0;
            for (Tree member : tree.getMembers()) {
                demand(member.getKind() != Tree.Kind.BLOCK, "rule 5: no initialiser block");
                if (member instanceof VariableTree) fields += field((VariableTree) member);
                if (outer) faceMember(member);
            }
            demand(fields <= 20, "rule 11: " + tree.getSimpleName() + " has " + fields + " fields");
            return super.visitClass(tree, nothing);
        }

        private int field(VariableTree tree) {
            Set<Modifier> flags = tree.getModifiers().getFlags();
            if (!flags.contains(Modifier.STATIC)) return 1;
            demand(flags.contains(Modifier.FINAL), "rule 5: " + tree.getName() + " is final");
            VariableElement variable = (VariableElement) element(tree);
            boolean row = tree.getInitializer() instanceof NewArrayTree
                && ((NewArrayTree) tree.getInitializer()).getInitializers() != null;
            demand(variable.getConstantValue() != null || row, "rule 5: " + tree.getName());
            return 0;
        }

        private void faceMember(Tree member) {
            Element element = element(member);
            if (element.getKind() == ElementKind.CLASS) return;
            String name = element.getSimpleName().toString();
            if (element.getModifiers().contains(Modifier.PUBLIC)) {
                face.add(name);
                return;
            }
            demand(element.getModifiers().contains(Modifier.PRIVATE), "rule 1: " + name + " is private");
            demand(element.getKind() != ElementKind.METHOD || !FACE.contains(name), "rule 1: the name " + name);
        }

        @Override public Void visitMethod(MethodTree tree, Void nothing) {
            ExecutableElement method = (ExecutableElement) element(tree);
            demand(tree.getParameters().size() <= 7, "rule 11: parameters of " + tree.getName());
            long start = positions.getStartPosition(unit, tree);
            if (start >= 0) {
                long lines = line(positions.getEndPosition(unit, tree)) - line(start) + 1;
                demand(lines <= 60, "rule 11: " + tree.getName() + " has " + lines + " lines");
            }
            ExecutableElement outer = caller;
            caller = method;
            calls.putIfAbsent(method, new HashSet<>());
            super.visitMethod(tree, nothing);
            caller = outer;
            return null;
        }

        @Override public Void visitMethodInvocation(MethodInvocationTree tree, Void nothing) {
            Element called = element(tree.getMethodSelect());
            String owner = called.getEnclosingElement().toString();
            if (owner.startsWith("RunCuts")) {
                if (caller != null) calls.get(caller).add((ExecutableElement) called);
            } else if (!called.getSimpleName().toString().equals("<init>")) {
                demand(LIBRARY.contains(owner + "." + called.getSimpleName()), "rule 4: " + owner + "." + called);
            }
            return super.visitMethodInvocation(tree, nothing);
        }

        @Override public Void visitNewClass(NewClassTree tree, Void nothing) {
            demand(tree.getClassBody() == null, "rule 2: no anonymous class");
            demand(tree.getArguments().isEmpty(), "rule 12: nothing is handed to a constructor");
            demand(caller == null, "rule 12: objects are made with the fields alone");
            return super.visitNewClass(tree, nothing);
        }

        @Override public Void visitNewArray(NewArrayTree tree, Void nothing) {
            demand(caller == null, "rule 12: rows are made with the fields alone");
            return super.visitNewArray(tree, nothing);
        }

        @Override public Void visitVariable(VariableTree tree, Void nothing) {
            javax.lang.model.type.TypeMirror type = element(tree).asType();
            if (type.getKind() == TypeKind.ARRAY) type = ((ArrayType) type).getComponentType();
            boolean known = type.getKind().isPrimitive() || type.toString().startsWith("RunCuts.");
            demand(known, "rule 3: " + tree.getName() + " is " + type);
            return super.visitVariable(tree, nothing);
        }

        int depth(ExecutableElement method, List<ExecutableElement> open) {
            demand(!open.contains(method), "rule 8: " + method + " calls itself");
            if (open.contains(method)) return 0;
            open.add(method);
            int deepest = 0;
            for (ExecutableElement called : calls.getOrDefault(method, Set.of())) {
                deepest = Math.max(deepest, depth(called, open));
            }
            open.remove(open.size() - 1);
            return deepest + 1;
        }
    }
}
