import com.sun.source.tree.AssignmentTree;
import com.sun.source.tree.BinaryTree;
import com.sun.source.tree.ClassTree;
import com.sun.source.tree.CompilationUnitTree;
import com.sun.source.tree.CompoundAssignmentTree;
import com.sun.source.tree.ExpressionStatementTree;
import com.sun.source.tree.ExpressionTree;
import com.sun.source.tree.ForLoopTree;
import com.sun.source.tree.ImportTree;
import com.sun.source.tree.LiteralTree;
import com.sun.source.tree.MethodInvocationTree;
import com.sun.source.tree.MethodTree;
import com.sun.source.tree.NewArrayTree;
import com.sun.source.tree.NewClassTree;
import com.sun.source.tree.ParenthesizedTree;
import com.sun.source.tree.Tree;
import com.sun.source.tree.UnaryTree;
import com.sun.source.tree.VariableTree;
import com.sun.source.util.JavacTask;
import com.sun.source.util.TreePath;
import com.sun.source.util.TreePathScanner;
import com.sun.source.util.TreeScanner;
import com.sun.source.util.Trees;
import java.io.IOException;
import java.nio.file.Path;
import java.util.ArrayList;
import java.util.List;
import java.util.Map;
import java.util.Set;
import java.util.TreeMap;
import java.util.TreeSet;
import javax.lang.model.element.Element;
import javax.lang.model.type.TypeMirror;
import javax.tools.JavaCompiler;
import javax.tools.StandardJavaFileManager;
import javax.tools.ToolProvider;

/** What javac reads in the source: each thing is told with the number of its line. */
final class SourceReading extends TreePathScanner<Void, Void> {
    /** The kinds of tree that stand in the source, with the line of the first one. */
    final Map<Tree.Kind, Long> kinds = new TreeMap<>();
    final Map<String, Long> types = new TreeMap<>();
    final Map<String, Long> libraryCalls = new TreeMap<>();
    /** Whom each method calls, but for the library. */
    final Map<String, Set<String>> calls = new TreeMap<>();
    final Map<String, Long> linesOfMethods = new TreeMap<>();
    final Map<String, Integer> parametersOfMethods = new TreeMap<>();
    final List<String> uncountedLoops = new ArrayList<>();
    final List<String> madeByCalls = new ArrayList<>();
    final List<String> imports = new ArrayList<>();
    final List<String> nestedDeep = new ArrayList<>();
    final List<String> joinedTexts = new ArrayList<>();
    final List<String> comparedTexts = new ArrayList<>();
    final List<String> wrongSigns = new ArrayList<>();

    private final Trees trees;
    private final CompilationUnitTree unit;
    private String method = "";
    private boolean inConstructor;
    private int classesOpen;

    private SourceReading(Trees trees, CompilationUnitTree unit) {
        this.trees = trees;
        this.unit = unit;
    }

    static SourceReading of(Path path) throws IOException {
        JavaCompiler compiler = ToolProvider.getSystemJavaCompiler();
        try (StandardJavaFileManager files = compiler.getStandardFileManager(null, null, null)) {
            JavacTask task = (JavacTask) compiler.getTask(null, files, null, List.of("-proc:none"), null,
                    files.getJavaFileObjects(path));
            CompilationUnitTree unit = task.parse().iterator().next();
            task.analyze();
            SourceReading reading = new SourceReading(Trees.instance(task), unit);
            reading.scan(unit, null);
            return reading;
        }
    }

    @Override
    public Void scan(Tree tree, Void nothing) {
        if (tree != null) {
            kinds.putIfAbsent(tree.getKind(), line(tree));
        }
        return super.scan(tree, nothing);
    }

    private long line(Tree tree) {
        return unit.getLineMap().getLineNumber(trees.getSourcePositions().getStartPosition(unit, tree));
    }

    private long lastLine(Tree tree) {
        return unit.getLineMap().getLineNumber(trees.getSourcePositions().getEndPosition(unit, tree));
    }

    private String at(Tree tree, String what) {
        return what + " in line " + line(tree);
    }

    @Override
    public Void visitImport(ImportTree tree, Void nothing) {
        imports.add((tree.isStatic() ? "static " : "") + tree.getQualifiedIdentifier());
        return super.visitImport(tree, nothing);
    }

    @Override
    public Void visitClass(ClassTree tree, Void nothing) {
        classesOpen++;
        if (classesOpen > 2 || !method.isEmpty()) {
            nestedDeep.add(at(tree, "class " + tree.getSimpleName()));
        }
        super.visitClass(tree, nothing);
        classesOpen--;
        return null;
    }

    @Override
    public Void visitMethod(MethodTree tree, Void nothing) {
        method = nameOf(trees.getElement(getCurrentPath()));
        inConstructor = tree.getReturnType() == null;
        calls.putIfAbsent(method, new TreeSet<>());
        linesOfMethods.put(method, lastLine(tree) - line(tree) + 1);
        parametersOfMethods.put(method, tree.getParameters().size());
        if (tree.getReturnType() != null) {
            types.putIfAbsent(tree.getReturnType().toString(), line(tree));
        }
        super.visitMethod(tree, nothing);
        method = "";
        inConstructor = false;
        return null;
    }

    @Override
    public Void visitVariable(VariableTree tree, Void nothing) {
        types.putIfAbsent(trees.getTypeMirror(getCurrentPath()).toString(), line(tree));
        return super.visitVariable(tree, nothing);
    }

    @Override
    public Void visitMethodInvocation(MethodInvocationTree tree, Void nothing) {
        Element called = trees.getElement(getCurrentPath());
        String name = nameOf(called);
        if (name.startsWith("PromiseWheel.")) {
            calls.computeIfAbsent(method, key -> new TreeSet<>()).add(name);
        } else {
            libraryCalls.putIfAbsent(name, line(tree));
        }
        return super.visitMethodInvocation(tree, nothing);
    }

    private static String nameOf(Element element) {
        return element.getEnclosingElement() + "." + element;
    }

    @Override
    public Void visitNewClass(NewClassTree tree, Void nothing) {
        types.putIfAbsent(tree.getIdentifier().toString(), line(tree));
        noteMaking(tree);
        return super.visitNewClass(tree, nothing);
    }

    @Override
    public Void visitNewArray(NewArrayTree tree, Void nothing) {
        noteMaking(tree);
        return super.visitNewArray(tree, nothing);
    }

    private void noteMaking(Tree tree) {
        if (!method.isEmpty() && !inConstructor) {
            madeByCalls.add(at(tree, tree.toString()));
        }
    }

    @Override
    public Void visitForLoop(ForLoopTree tree, Void nothing) {
        String counter = counterOf(tree);
        if (counter.isEmpty() || !isBounded(tree.getCondition(), counter)
                || isWritten(tree.getStatement(), counter)) {
            uncountedLoops.add(at(tree, "for (" + tree.getCondition() + ")"));
        }
        return super.visitForLoop(tree, nothing);
    }

    /** The variable that each turn makes greater by 1, if there is one. */
    private static String counterOf(ForLoopTree tree) {
        if (tree.getUpdate().size() != 1) {
            return "";
        }
        ExpressionStatementTree update = tree.getUpdate().get(0);
        if (update.getExpression().getKind() != Tree.Kind.POSTFIX_INCREMENT) {
            return "";
        }
        return ((UnaryTree) update.getExpression()).getExpression().toString();
    }

    private static boolean isBounded(ExpressionTree condition, String counter) {
        if (condition == null) {
            return false;
        }
        switch (condition.getKind()) {
            case PARENTHESIZED:
                return isBounded(((ParenthesizedTree) condition).getExpression(), counter);
            case CONDITIONAL_AND:
                BinaryTree both = (BinaryTree) condition;
                return isBounded(both.getLeftOperand(), counter) || isBounded(both.getRightOperand(), counter);
            case LESS_THAN:
            case LESS_THAN_EQUAL:
                return ((BinaryTree) condition).getLeftOperand().toString().equals(counter);
            default:
                return false;
        }
    }

    private static boolean isWritten(Tree body, String variable) {
        boolean[] found = new boolean[1];
        new TreeScanner<Void, Void>() {
            @Override
            public Void visitAssignment(AssignmentTree tree, Void nothing) {
                found[0] |= tree.getVariable().toString().equals(variable);
                return super.visitAssignment(tree, nothing);
            }

            @Override
            public Void visitCompoundAssignment(CompoundAssignmentTree tree, Void nothing) {
                found[0] |= tree.getVariable().toString().equals(variable);
                return super.visitCompoundAssignment(tree, nothing);
            }

            @Override
            public Void visitUnary(UnaryTree tree, Void nothing) {
                found[0] |= tree.getExpression().toString().equals(variable);
                return super.visitUnary(tree, nothing);
            }
        }.scan(body, null);
        return found[0];
    }

    @Override
    public Void visitBinary(BinaryTree tree, Void nothing) {
        boolean isText = isText(tree.getLeftOperand()) || isText(tree.getRightOperand());
        if (isText && tree.getKind() == Tree.Kind.PLUS) {
            joinedTexts.add(at(tree, tree.toString()));
        }
        if (isText && (tree.getKind() == Tree.Kind.EQUAL_TO || tree.getKind() == Tree.Kind.NOT_EQUAL_TO)) {
            comparedTexts.add(at(tree, tree.toString()));
        }
        return super.visitBinary(tree, nothing);
    }

    private boolean isText(Tree tree) {
        TypeMirror type = trees.getTypeMirror(new TreePath(getCurrentPath(), tree));
        return type != null && type.toString().startsWith("java.lang.");
    }

    @Override
    public Void visitLiteral(LiteralTree tree, Void nothing) {
        String value = String.valueOf(tree.getValue());
        for (int at = 0; at < value.length(); at++) {
            if (value.charAt(at) < 1 || value.charAt(at) > 127) {
                wrongSigns.add(at(tree, "sign " + (int) value.charAt(at)));
            }
        }
        return super.visitLiteral(tree, nothing);
    }
}
