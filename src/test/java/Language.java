import com.sun.source.tree.ArrayTypeTree;
import com.sun.source.tree.AssertTree;
import com.sun.source.tree.BinaryTree;
import com.sun.source.tree.ClassTree;
import com.sun.source.tree.CompilationUnitTree;
import com.sun.source.tree.IdentifierTree;
import com.sun.source.tree.ImportTree;
import com.sun.source.tree.LambdaExpressionTree;
import com.sun.source.tree.LiteralTree;
import com.sun.source.tree.MemberReferenceTree;
import com.sun.source.tree.MemberSelectTree;
import com.sun.source.tree.MethodInvocationTree;
import com.sun.source.tree.MethodTree;
import com.sun.source.tree.NewArrayTree;
import com.sun.source.tree.NewClassTree;
import com.sun.source.tree.PrimitiveTypeTree;
import com.sun.source.tree.SynchronizedTree;
import com.sun.source.tree.ThrowTree;
import com.sun.source.tree.Tree;
import com.sun.source.tree.TryTree;
import com.sun.source.tree.VariableTree;
import com.sun.source.util.JavacTask;
import com.sun.source.util.SourcePositions;
import com.sun.source.util.TreeScanner;
import com.sun.source.util.Trees;
import java.nio.file.Path;
import java.util.ArrayList;
import java.util.HashMap;
import java.util.HashSet;
import java.util.List;
import java.util.Map;
import java.util.Set;
import java.util.TreeSet;
import javax.lang.model.element.Modifier;
import javax.tools.JavaCompiler;
import javax.tools.StandardJavaFileManager;
import javax.tools.ToolProvider;

/**
 * The rules of ../shared/LANGUAGE.md that can be read off the source, as strictly as the class needs them: what the rules
 * would allow and the class has no use for (try, lists, texts, recursion) is a fault here too.
 */
public final class Language extends TreeScanner<Void, Void> {
    private static final Set<String> IMPORTS = Set.of("java.util.Arrays", "java.util.NoSuchElementException");
    private static final Set<String> LIBRARY = Set.of("Arrays.fill", "System.arraycopy", "Math.abs", "Math.max", "Math.min",
        "Integer.bitCount", "Integer.signum");
    private static final int MOST_CLASSES = 12;
    private static final int MOST_FIELDS = 20;
    private static final int MOST_LINES = 60;
    private static final int MOST_PARAMETERS = 7;
    private static final int DEEPEST = 8;

    private final CompilationUnitTree unit;
    private final SourcePositions positions;
    private final List<String> faults = new ArrayList<>();
    private final Set<String> classes = new HashSet<>();
    private final Set<String> names = new HashSet<>();
    /** By a method's name and how many arguments it takes: the same of what it calls, in any class. */
    private final Map<String, Set<String>> calls = new HashMap<>();
    private int depth = 0;
    private String method = "";
    private boolean inConstructor = false;
    private int loops = 0;

    private Language(CompilationUnitTree unit, SourcePositions positions) {
        this.unit = unit;
        this.positions = positions;
    }

    public static void main(String[] args) throws Exception {
        JavaCompiler compiler = ToolProvider.getSystemJavaCompiler();
        try (StandardJavaFileManager files = compiler.getStandardFileManager(null, null, null)) {
            JavacTask task = (JavacTask) compiler.getTask(null, files, null, null, null,
                files.getJavaFileObjects(Path.of("src/main/java/LighterAtDusk.java")));
            CompilationUnitTree unit = task.parse().iterator().next();
            Language language = new Language(unit, Trees.instance(task).getSourcePositions());
            language.names(unit);
            language.scan(unit, null);
            language.lookAtCalls();
            for (String fault : language.faults) {
                System.out.println(fault);
            }
            System.out.println(language.calls.size() + " methods read, " + language.faults.size() + " faults");
            if (!language.faults.isEmpty() || language.calls.isEmpty()) {
                System.exit(1);
            }
        }
    }

    /** What is the file's own, so that all else can be told from it. */
    private void names(CompilationUnitTree tree) {
        new TreeScanner<Void, Void>() {
            @Override
            public Void visitClass(ClassTree inside, Void none) {
                classes.add(inside.getSimpleName().toString());
                return super.visitClass(inside, none);
            }

            @Override
            public Void visitMethod(MethodTree own, Void none) {
                names.add(own.getName().toString());
                return super.visitMethod(own, none);
            }
        }.scan(tree, null);
    }

    private long line(long position) {
        return unit.getLineMap().getLineNumber(position);
    }

    private void fault(int rule, Tree tree, String words) {
        faults.add("rule " + rule + ", line " + line(positions.getStartPosition(unit, tree)) + ": " + words);
    }

    @Override
    public Void visitCompilationUnit(CompilationUnitTree tree, Void none) {
        if (tree.getPackageName() != null || tree.getTypeDecls().size() != 1) {
            fault(1, tree, "a package, or another class beside the one");
        }
        return super.visitCompilationUnit(tree, none);
    }

    @Override
    public Void visitImport(ImportTree tree, Void none) {
        if (tree.isStatic() || !IMPORTS.contains(tree.getQualifiedIdentifier().toString())) {
            fault(4, tree, tree.toString().trim());
        }
        return null;
    }

    @Override
    public Void visitClass(ClassTree tree, Void none) {
        boolean inside = depth > 0;
        if (inside && !tree.getModifiers().getFlags().contains(Modifier.STATIC)) {
            fault(2, tree, "a class inside that is not static: " + tree.getSimpleName());
        }
        if (classes.size() > MOST_CLASSES) {
            fault(11, tree, classes.size() + " classes");
        }
        int fields = 0;
        for (Tree member : tree.getMembers()) {
            if (member instanceof VariableTree field) {
                fields += field.getModifiers().getFlags().contains(Modifier.STATIC) ? 0 : 1;
                lookAtStatic(field);
            }
            if (member.getKind() == Tree.Kind.BLOCK) {
                fault(5, member, "an initialiser block");
            }
        }
        if (fields > MOST_FIELDS) {
            fault(11, tree, fields + " fields in " + tree.getSimpleName());
        }
        depth++;
        super.visitClass(tree, none);
        depth--;
        return null;
    }

    private void lookAtStatic(VariableTree field) {
        Set<Modifier> flags = field.getModifiers().getFlags();
        if (flags.contains(Modifier.STATIC)) {
            boolean written = field.getInitializer() != null
                && !(field.getInitializer() instanceof NewArrayTree made && made.getInitializers() == null)
                && !(field.getInitializer() instanceof MethodInvocationTree)
                && !(field.getInitializer() instanceof NewClassTree);
            if (!flags.contains(Modifier.FINAL) || !written) {
                fault(5, field, "a static field that is no constant: " + field.getName());
            }
        }
    }

    @Override
    public Void visitMethod(MethodTree tree, Void none) {
        method = tree.getName() + "/" + tree.getParameters().size();
        inConstructor = tree.getReturnType() == null;
        calls.computeIfAbsent(method, name -> new TreeSet<>());
        long lines = line(positions.getEndPosition(unit, tree)) - line(positions.getStartPosition(unit, tree)) + 1;
        if (lines > MOST_LINES || tree.getParameters().size() > MOST_PARAMETERS) {
            fault(11, tree, method + " has " + lines + " lines");
        }
        super.visitMethod(tree, none);
        method = "";
        inConstructor = false;
        return null;
    }

    @Override
    public Void visitVariable(VariableTree tree, Void none) {
        Tree type = tree.getType();
        if (type instanceof ArrayTypeTree array) {
            type = array.getType();
        }
        boolean own = type instanceof IdentifierTree name && classes.contains(name.getName().toString());
        if (!own && !(type instanceof PrimitiveTypeTree)) {
            fault(3, tree, "a type that the class has no use for: " + tree);
        }
        return super.visitVariable(tree, none);
    }

    @Override
    public Void visitMethodInvocation(MethodInvocationTree tree, Void none) {
        Tree select = tree.getMethodSelect();
        String words = select.toString();
        String name = select instanceof MemberSelectTree member ? member.getIdentifier().toString() : words;
        boolean constructs = words.equals("super");
        if (!LIBRARY.contains(words) && !constructs && !names.contains(name)) {
            fault(4, tree, "a call that is neither of the file nor of what it needs of the library: " + words);
        }
        if (!method.isEmpty() && names.contains(name) && !LIBRARY.contains(words)) {
            calls.get(method).add(name + "/" + tree.getArguments().size());
        }
        return super.visitMethodInvocation(tree, none);
    }

    @Override
    public Void visitNewClass(NewClassTree tree, Void none) {
        String name = tree.getIdentifier().toString();
        boolean thrown = name.equals("NoSuchElementException");
        if (tree.getClassBody() != null || (!thrown && !classes.contains(name))) {
            fault(2, tree, "an object that the class has no use for: " + name);
        }
        if (loops > 0 && !thrown) {
            fault(12, tree, "an object made in a loop");
        }
        return super.visitNewClass(tree, none);
    }

    @Override
    public Void visitNewArray(NewArrayTree tree, Void none) {
        if (!method.isEmpty() || tree.getDimensions().size() > 1) {
            fault(12, tree, "an array made in a method, or of two dimensions");
        }
        return super.visitNewArray(tree, none);
    }

    @Override
    public Void visitThrow(ThrowTree tree, Void none) {
        boolean plain = tree.getExpression() instanceof NewClassTree made
            && made.getIdentifier().toString().equals("NoSuchElementException") && made.getArguments().isEmpty();
        if (!plain || inConstructor) {
            fault(6, tree, tree.toString());
        }
        return super.visitThrow(tree, none);
    }

    @Override
    public Void visitBinary(BinaryTree tree, Void none) {
        for (Tree side : List.of(tree.getLeftOperand(), tree.getRightOperand())) {
            if (side instanceof LiteralTree literal && literal.getValue() instanceof String) {
                fault(10, tree, "texts joined by an operator");
            }
        }
        return super.visitBinary(tree, none);
    }

    @Override
    public Void scan(Tree tree, Void none) {
        Tree.Kind kind = tree == null ? Tree.Kind.OTHER : tree.getKind();
        boolean loop = kind == Tree.Kind.FOR_LOOP || kind == Tree.Kind.WHILE_LOOP || kind == Tree.Kind.DO_WHILE_LOOP
            || kind == Tree.Kind.ENHANCED_FOR_LOOP;
        loops += loop ? 1 : 0;
        super.scan(tree, none);
        loops -= loop ? 1 : 0;
        return null;
    }

    @Override
    public Void visitTry(TryTree tree, Void none) {
        fault(6, tree, "try");
        return null;
    }

    @Override
    public Void visitAssert(AssertTree tree, Void none) {
        fault(6, tree, "assert");
        return null;
    }

    @Override
    public Void visitSynchronized(SynchronizedTree tree, Void none) {
        fault(6, tree, "synchronized");
        return null;
    }

    @Override
    public Void visitLambdaExpression(LambdaExpressionTree tree, Void none) {
        fault(2, tree, "a lambda");
        return null;
    }

    @Override
    public Void visitMemberReference(MemberReferenceTree tree, Void none) {
        fault(2, tree, "a method reference");
        return null;
    }

    private void lookAtCalls() {
        int deepest = 0;
        for (String name : calls.keySet()) {
            deepest = Math.max(deepest, deepestFrom(name, new ArrayList<>()));
        }
        System.out.println("calls go " + deepest + " deep");
        if (deepest > DEEPEST) {
            faults.add("rule 11: calls go " + deepest + " deep");
        }
    }

    private int deepestFrom(String name, List<String> open) {
        if (open.contains(name)) {
            faults.add("rule 8: " + name + " calls itself by " + open);
            return 0;
        }
        open.add(name);
        int deepest = 0;
        for (String next : calls.getOrDefault(name, Set.of())) {
            deepest = Math.max(deepest, deepestFrom(next, open));
        }
        open.remove(open.size() - 1);
        return deepest + 1;
    }
}
