import com.sun.source.tree.ArrayTypeTree;
import com.sun.source.tree.AssignmentTree;
import com.sun.source.tree.ClassTree;
import com.sun.source.tree.CompilationUnitTree;
import com.sun.source.tree.ExpressionTree;
import com.sun.source.tree.IdentifierTree;
import com.sun.source.tree.MethodInvocationTree;
import com.sun.source.tree.MethodTree;
import com.sun.source.tree.NewArrayTree;
import com.sun.source.tree.Tree;
import com.sun.source.tree.Tree.Kind;
import com.sun.source.tree.VariableTree;
import com.sun.source.util.JavacTask;
import com.sun.source.util.SourcePositions;
import com.sun.source.util.TreePath;
import com.sun.source.util.TreePathScanner;
import com.sun.source.util.Trees;
import java.io.IOException;
import java.nio.file.Path;
import java.util.EnumSet;
import java.util.HashSet;
import java.util.List;
import java.util.Map;
import java.util.Set;
import java.util.TreeMap;
import java.util.TreeSet;
import javax.tools.JavaCompiler;
import javax.tools.StandardJavaFileManager;
import javax.tools.ToolProvider;

/** What of LANGUAGE.md can be seen from the source: rules 2 to 4, 6, 8 and 10. It asks for less freedom than they leave. */
public final class LanguageTest {
    private static final Path SOURCE = Path.of("src/main/java/EphemeronHeap.java");
    private static final int MOST_LINES = 60;
    private static final int MOST_FIELDS = 40;
    private static final int MOST_PARAMETERS = 7;
    private static final int DEEPEST = 6;

    private static final Set<Kind> RULED_OUT = EnumSet.of(Kind.IMPORT, Kind.PACKAGE, Kind.NEW_CLASS, Kind.MEMBER_SELECT,
            Kind.NULL_LITERAL, Kind.STRING_LITERAL, Kind.FLOAT_LITERAL, Kind.DOUBLE_LITERAL, Kind.PARAMETERIZED_TYPE,
            Kind.ANNOTATION, Kind.THROW, Kind.TRY, Kind.SYNCHRONIZED, Kind.ASSERT, Kind.INSTANCE_OF,
            Kind.LAMBDA_EXPRESSION, Kind.MEMBER_REFERENCE, Kind.TYPE_CAST, Kind.INTERFACE, Kind.ENUM, Kind.RECORD);

    private final Check check = new Check();
    private final Map<String, Set<String>> calls = new TreeMap<>();
    private final Set<String> arrayFields = new HashSet<>();
    private CompilationUnitTree unit;
    private SourcePositions positions;

    private long line(Tree tree) {
        return unit.getLineMap().getLineNumber(positions.getStartPosition(unit, tree));
    }

    private long lastLine(Tree tree) {
        return unit.getLineMap().getLineNumber(positions.getEndPosition(unit, tree));
    }

    private void holds(Tree tree, String rule, boolean held) {
        check.due("line " + line(tree) + ", " + rule, held, true);
    }

    private void parse() throws IOException {
        JavaCompiler compiler = ToolProvider.getSystemJavaCompiler();
        try (StandardJavaFileManager files = compiler.getStandardFileManager(null, null, null)) {
            List<String> options = List.of("--release", "17");
            JavacTask task = (JavacTask) compiler.getTask(null, files, null, options, null, files.getJavaFileObjects(SOURCE));
            unit = task.parse().iterator().next();
            positions = Trees.instance(task).getSourcePositions();
        }
    }

    private static boolean isNumberOrBoolean(Tree type) {
        return Set.of("int", "long", "short", "byte", "char", "boolean").contains(type.toString());
    }

    private void lookAtType(Tree type) {
        Tree base = type.getKind() == Kind.ARRAY_TYPE ? ((ArrayTypeTree) type).getType() : type;
        holds(type, "rule 2: numbers, booleans and their arrays alone", isNumberOrBoolean(base));
    }

    private void lookAtMembers(ClassTree heap) {
        int fields = 0;
        for (Tree member : heap.getMembers()) {
            boolean field = member.getKind() == Kind.VARIABLE;
            holds(member, "rules 1 and 5: fields and methods alone", field || member.getKind() == Kind.METHOD);
            if (field) {
                VariableTree variable = (VariableTree) member;
                fields += variable.getModifiers().toString().contains("static") ? 0 : 1;
                if (variable.getType().getKind() == Kind.ARRAY_TYPE) {
                    arrayFields.add(variable.getName().toString());
                }
            }
        }
        holds(heap, "rule 10: some forty fields at most", fields <= MOST_FIELDS);
    }

    private final class Scanner extends TreePathScanner<Void, String> {
        @Override
        public Void scan(Tree tree, String method) {
            if (tree != null) {
                holds(tree, "ruled out: " + tree.getKind(), !RULED_OUT.contains(tree.getKind()));
            }
            return super.scan(tree, method);
        }

        @Override
        public Void visitMethod(MethodTree tree, String outside) {
            String name = tree.getName().toString();
            holds(tree, "no two methods of one name", calls.put(name, new TreeSet<>()) == null);
            holds(tree, "rule 10: parameters", tree.getParameters().size() <= MOST_PARAMETERS);
            holds(tree, "rule 10: lines", lastLine(tree) - line(tree) < MOST_LINES);
            if (tree.getReturnType() != null && !tree.getReturnType().toString().equals("void")) {
                holds(tree, "rule 4: no array is answered", isNumberOrBoolean(tree.getReturnType()));
            }
            return super.visitMethod(tree, name);
        }

        @Override
        public Void visitVariable(VariableTree tree, String method) {
            lookAtType(tree.getType());
            return super.visitVariable(tree, method);
        }

        @Override
        public Void visitMethodInvocation(MethodInvocationTree tree, String method) {
            boolean own = tree.getMethodSelect() instanceof IdentifierTree;
            holds(tree, "rule 3: calls of the class's own methods alone", own);
            holds(tree, "rule 10: no call inside another call's arguments", !isInsideACall());
            if (own && method != null) {
                calls.get(method).add(tree.getMethodSelect().toString());
            }
            return super.visitMethodInvocation(tree, method);
        }

        private boolean isInsideACall() {
            for (TreePath path = getCurrentPath().getParentPath(); path != null; path = path.getParentPath()) {
                if (path.getLeaf().getKind() == Kind.METHOD_INVOCATION) {
                    return true;
                }
            }
            return false;
        }

        @Override
        public Void visitNewArray(NewArrayTree tree, String method) {
            Tree parent = getCurrentPath().getParentPath().getLeaf();
            holds(tree, "rule 4: made in a field's initialiser", method == null && parent.getKind() == Kind.VARIABLE);
            boolean oneLength = tree.getDimensions().size() == 1;
            holds(tree, "rule 4: one length, a constant", oneLength && isConstant(tree.getDimensions().get(0)));
            return super.visitNewArray(tree, method);
        }

        private boolean isConstant(ExpressionTree length) {
            return length.getKind() == Kind.INT_LITERAL || length.toString().matches("[A-Z_]+");
        }

        @Override
        public Void visitAssignment(AssignmentTree tree, String method) {
            holds(tree, "rule 4: no array field is assigned to", !arrayFields.contains(tree.getVariable().toString()));
            return super.visitAssignment(tree, method);
        }
    }

    /** How many calls deep a method goes, itself counted; a method that comes again on the way down is recursion. */
    private int depth(String method, Set<String> above) {
        if (!above.add(method)) {
            check.due("rule 8: recursion through " + method, true, false);
            return 0;
        }
        int deepest = 0;
        for (String called : calls.getOrDefault(method, Set.of())) {
            deepest = Math.max(deepest, depth(called, above));
        }
        above.remove(method);
        return deepest + 1;
    }

    private void lookAtAll() throws IOException {
        parse();
        check.due("rule 1: classes in the file", unit.getTypeDecls().size(), 1);
        lookAtMembers((ClassTree) unit.getTypeDecls().get(0));
        new Scanner().scan(unit, null);
        for (String method : calls.keySet()) {
            check.due("rule 10: calls below " + method, depth(method, new HashSet<>()) <= DEEPEST, true);
        }
        check.end();
    }

    public static void main(String[] args) throws IOException {
        new LanguageTest().lookAtAll();
    }
}
