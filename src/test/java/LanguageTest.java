import com.sun.source.tree.ArrayAccessTree;
import com.sun.source.tree.ClassTree;
import com.sun.source.tree.CompilationUnitTree;
import com.sun.source.tree.ExpressionTree;
import com.sun.source.tree.ForLoopTree;
import com.sun.source.tree.IdentifierTree;
import com.sun.source.tree.LineMap;
import com.sun.source.tree.MemberSelectTree;
import com.sun.source.tree.MethodInvocationTree;
import com.sun.source.tree.MethodTree;
import com.sun.source.tree.NewArrayTree;
import com.sun.source.tree.PrimitiveTypeTree;
import com.sun.source.tree.Tree;
import com.sun.source.tree.TypeCastTree;
import com.sun.source.tree.VariableTree;
import com.sun.source.util.JavacTask;
import com.sun.source.util.SourcePositions;
import com.sun.source.util.TreeScanner;
import com.sun.source.util.Trees;
import java.io.IOException;
import java.nio.file.Path;
import java.util.EnumSet;
import java.util.HashMap;
import java.util.HashSet;
import java.util.Map;
import java.util.Set;
import java.util.TreeSet;
import javax.lang.model.element.Modifier;
import javax.lang.model.type.TypeKind;
import javax.tools.JavaCompiler;
import javax.tools.StandardJavaFileManager;
import javax.tools.ToolProvider;

/** The rules of LANGUAGE.md that can be read off the source of the class. */
public final class LanguageTest {
    private static final EnumSet<Tree.Kind> FORBIDDEN = EnumSet.of(
        Tree.Kind.THROW, Tree.Kind.TRY, Tree.Kind.CATCH, Tree.Kind.SYNCHRONIZED, Tree.Kind.ASSERT,
        Tree.Kind.INSTANCE_OF, Tree.Kind.LAMBDA_EXPRESSION, Tree.Kind.MEMBER_REFERENCE,
        Tree.Kind.NEW_CLASS, Tree.Kind.STRING_LITERAL, Tree.Kind.NULL_LITERAL,
        Tree.Kind.FLOAT_LITERAL, Tree.Kind.DOUBLE_LITERAL, Tree.Kind.PARAMETERIZED_TYPE,
        Tree.Kind.IMPORT, Tree.Kind.ANNOTATION, Tree.Kind.INTERFACE, Tree.Kind.ENUM,
        Tree.Kind.RECORD);

    private static final Map<String, Set<String>> calls = new HashMap<>();
    private static final Set<String> publicNames = new TreeSet<>();
    private static final Set<String> privateNames = new TreeSet<>();
    private static LineMap lines;
    private static SourcePositions positions;
    private static CompilationUnitTree unit;
    private static int fields = 0;

    public static void main(String[] args) throws IOException {
        JavaCompiler compiler = ToolProvider.getSystemJavaCompiler();
        StandardJavaFileManager files = compiler.getStandardFileManager(null, null, null);
        Path source = Path.of("src/main/java/SizedTermination.java");
        JavacTask task = (JavacTask) compiler.getTask(null, files, null, null, null,
            files.getJavaFileObjects(source));
        unit = task.parse().iterator().next();
        lines = unit.getLineMap();
        positions = Trees.instance(task).getSourcePositions();
        Due.same("rule 1: package line", unit.getPackage() == null, true);
        Due.same("rule 3: imports", unit.getImports().size(), 0);
        Due.same("rule 1: one class", unit.getTypeDecls().size(), 1);
        new Rules().scan(unit, null);
        Set<String> both = new TreeSet<>(publicNames);
        both.retainAll(privateNames);
        Due.same("rule 1: private names of public methods", both, Set.of());
        Due.same("rule 10: fields, " + fields, fields <= 42, true);
        for (String method : calls.keySet()) {
            int depth = callDepth(method, new HashSet<>());
            Due.same("rules 8 and 10: calls under " + method + ", " + depth, depth <= 6, true);
        }
        Due.end();
    }

    /** How many methods deep the calls go, the first one counted; 99 for recursion. */
    private static int callDepth(String method, Set<String> above) {
        if (!calls.containsKey(method)) {
            return 0;
        }
        if (!above.add(method)) {
            return 99;
        }
        int deepest = 0;
        for (String callee : calls.get(method)) {
            deepest = Math.max(deepest, callDepth(callee, above));
        }
        above.remove(method);
        return deepest + 1;
    }

    private static long line(Tree tree) {
        return lines.getLineNumber(positions.getStartPosition(unit, tree));
    }

    private static final class Rules extends TreeScanner<Void, Void> {
        private String method = null;
        private int callsAround = 0;

        private void rule(String rule, Tree tree, boolean kept) {
            Due.same("rule " + rule + " at line " + line(tree), kept, true);
        }

        @Override
        public Void scan(Tree tree, Void nothing) {
            if (tree != null) {
                rule("2, 3, 4 or 6: " + tree.getKind(), tree, !FORBIDDEN.contains(tree.getKind()));
            }
            return super.scan(tree, nothing);
        }

        @Override
        public Void visitClass(ClassTree tree, Void nothing) {
            rule("1, a class in another", tree, method == null);
            for (Tree member : tree.getMembers()) {
                rule("5, an initialiser", member, member.getKind() != Tree.Kind.BLOCK);
                if (member instanceof VariableTree) {
                    visitField((VariableTree) member);
                }
            }
            return super.visitClass(tree, nothing);
        }

        private void visitField(VariableTree field) {
            Set<Modifier> modifiers = field.getModifiers().getFlags();
            if (modifiers.contains(Modifier.STATIC)) {
                String type = field.getType().toString();
                rule("5, a static field", field, type.equals("int") || type.equals("long"));
                rule("5, a static field", field, modifiers.contains(Modifier.FINAL));
            } else {
                fields++;
                rule("1, a field", field, modifiers.contains(Modifier.PRIVATE));
            }
        }

        @Override
        public Void visitMethod(MethodTree tree, Void nothing) {
            method = tree.getName().toString();
            boolean open = tree.getModifiers().getFlags().contains(Modifier.PUBLIC);
            (open ? publicNames : privateNames).add(method);
            rule("1, " + method, tree, open || tree.getModifiers().getFlags().contains(Modifier.PRIVATE));
            calls.putIfAbsent(method, new TreeSet<>());
            rule("10, parameters of " + method, tree, tree.getParameters().size() <= 7);
            long last = lines.getLineNumber(positions.getEndPosition(unit, tree));
            rule("10, lines of " + method, tree, last - line(tree) < 60);
            super.visitMethod(tree, nothing);
            method = null;
            return null;
        }

        @Override
        public Void visitMethodInvocation(MethodInvocationTree tree, Void nothing) {
            String callee = tree.getMethodSelect().toString();
            rule("3, a call of " + callee, tree, tree.getMethodSelect() instanceof IdentifierTree);
            rule("10, a call in the arguments of another", tree, callsAround == 0);
            calls.get(method).add(callee);
            callsAround++;
            for (ExpressionTree argument : tree.getArguments()) {
                scan(argument, nothing);
            }
            callsAround--;
            return null;
        }

        @Override
        public Void visitMemberSelect(MemberSelectTree tree, Void nothing) {
            boolean own = tree.getExpression().toString().equals("this");
            rule("3, " + tree, tree, own || tree.getIdentifier().contentEquals("length"));
            return super.visitMemberSelect(tree, nothing);
        }

        @Override
        public Void visitForLoop(ForLoopTree tree, Void nothing) {
            rule("8, a loop's bound", tree, tree.getCondition() != null);
            return super.visitForLoop(tree, nothing);
        }

        @Override
        public Void visitNewArray(NewArrayTree tree, Void nothing) {
            rule("4, an array made in a method", tree, method == null);
            rule("4, an array's initialiser", tree, tree.getInitializers() == null);
            rule("4, an array's dimensions", tree, tree.getDimensions().size() == 1);
            return super.visitNewArray(tree, nothing);
        }

        @Override
        public Void visitArrayAccess(ArrayAccessTree tree, Void nothing) {
            rule("2, an array of arrays", tree, tree.getExpression() instanceof IdentifierTree);
            return super.visitArrayAccess(tree, nothing);
        }

        @Override
        public Void visitTypeCast(TypeCastTree tree, Void nothing) {
            rule("6, a cast", tree, tree.getType() instanceof PrimitiveTypeTree);
            return super.visitTypeCast(tree, nothing);
        }

        @Override
        public Void visitPrimitiveType(PrimitiveTypeTree tree, Void nothing) {
            TypeKind kind = tree.getPrimitiveTypeKind();
            rule("2, a type", tree, kind != TypeKind.FLOAT && kind != TypeKind.DOUBLE);
            return super.visitPrimitiveType(tree, nothing);
        }
    }
}
