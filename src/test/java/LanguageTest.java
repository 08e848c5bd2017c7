import com.sun.source.tree.ArrayTypeTree;
import com.sun.source.tree.ClassTree;
import com.sun.source.tree.CompilationUnitTree;
import com.sun.source.tree.ExpressionTree;
import com.sun.source.tree.ForLoopTree;
import com.sun.source.tree.IdentifierTree;
import com.sun.source.tree.MemberSelectTree;
import com.sun.source.tree.MethodInvocationTree;
import com.sun.source.tree.MethodTree;
import com.sun.source.tree.NewArrayTree;
import com.sun.source.tree.Tree;
import com.sun.source.tree.TypeCastTree;
import com.sun.source.tree.VariableTree;
import com.sun.source.util.JavacTask;
import com.sun.source.util.TreePath;
import com.sun.source.util.TreePathScanner;
import com.sun.source.util.Trees;
import java.io.IOException;
import java.nio.file.Path;
import java.util.HashMap;
import java.util.HashSet;
import java.util.Map;
import java.util.Set;
import java.util.TreeSet;
import javax.lang.model.element.Modifier;
import javax.tools.JavaCompiler;
import javax.tools.StandardJavaFileManager;
import javax.tools.ToolProvider;

/**
 * Those rules of LANGUAGE.md that can be read off the source, looked at in the compiler's own tree of it.
 * It is stricter than the rules where the class needs less than they leave: loops are counted ones,
 * arrays are made in the fields' initialisers alone. Run from the project's folder.
 */
public final class LanguageTest extends TreePathScanner<Void, Void> {
    private static final Path SOURCE = Path.of("src", "main", "java", "PolygonFill.java");
    private static final Set<String> TYPES = Set.of("int", "long", "short", "byte", "char", "boolean");
    private static final int MOST_PARAMETERS = 7;
    private static final int MOST_LINES = 60;
    private static final int MOST_CALLS_DEEP = 6;
    private static final int MOST_FIELDS = 40;

    private static final Set<Tree.Kind> RULED_OUT = Set.of(
        Tree.Kind.IMPORT, Tree.Kind.PACKAGE, Tree.Kind.INTERFACE, Tree.Kind.ENUM, Tree.Kind.RECORD,
        Tree.Kind.ANNOTATION_TYPE, Tree.Kind.NEW_CLASS, Tree.Kind.NULL_LITERAL, Tree.Kind.STRING_LITERAL,
        Tree.Kind.FLOAT_LITERAL, Tree.Kind.DOUBLE_LITERAL, Tree.Kind.THROW, Tree.Kind.TRY, Tree.Kind.CATCH,
        Tree.Kind.SYNCHRONIZED, Tree.Kind.ASSERT, Tree.Kind.INSTANCE_OF, Tree.Kind.LAMBDA_EXPRESSION,
        Tree.Kind.MEMBER_REFERENCE, Tree.Kind.WHILE_LOOP, Tree.Kind.DO_WHILE_LOOP, Tree.Kind.ENHANCED_FOR_LOOP);

    private static final Due due = new Due();

    private final Trees trees;
    private final CompilationUnitTree unit;
    private final Map<String, Set<String>> callees = new HashMap<>();
    private final Set<String> publicNames = new HashSet<>();
    private final Set<String> privateNames = new HashSet<>();
    private int classes = 0;
    private int fields = 0;

    private LanguageTest(Trees trees, CompilationUnitTree unit) {
        this.trees = trees;
        this.unit = unit;
    }

    public static void main(String[] args) throws IOException {
        JavaCompiler compiler = ToolProvider.getSystemJavaCompiler();
        try (StandardJavaFileManager files = compiler.getStandardFileManager(null, null, null)) {
            JavacTask task = (JavacTask) compiler.getTask(null, files, null, null, null,
                files.getJavaFileObjects(SOURCE));
            LanguageTest test = new LanguageTest(Trees.instance(task), task.parse().iterator().next());
            test.scan(test.unit, null);
            test.lookAtTheWhole();
        }
        due.end();
    }

    @Override
    public Void scan(Tree tree, Void nothing) {
        if (tree != null) {
            due.holds("no " + tree.getKind() + ": " + tree, !RULED_OUT.contains(tree.getKind()));
        }
        return super.scan(tree, nothing);
    }

    @Override
    public Void visitClass(ClassTree type, Void nothing) {
        classes++;
        for (Tree member : type.getMembers()) {
            due.holds("rule 5: no initialiser block", member.getKind() != Tree.Kind.BLOCK);
        }
        return super.visitClass(type, nothing);
    }

    @Override
    public Void visitMethod(MethodTree method, Void nothing) {
        String name = method.getName().toString();
        Set<Modifier> modifiers = method.getModifiers().getFlags();
        boolean isPublic = modifiers.contains(Modifier.PUBLIC);
        due.holds("rule 1: public or private: " + name, isPublic || modifiers.contains(Modifier.PRIVATE));
        due.holds("rule 10: a name is one method's alone: " + name, callees.put(name, new TreeSet<>()) == null);
        (isPublic ? publicNames : privateNames).add(name);
        due.holds("rule 10: parameters of " + name, method.getParameters().size() <= MOST_PARAMETERS);
        due.holds("rule 10: lines of " + name, lines(method) <= MOST_LINES);
        due.holds("rule 6: no throws of " + name, method.getThrows().isEmpty());
        Tree answer = method.getReturnType();
        due.holds("rules 2 and 4: the answer of " + name,
            answer == null || answer.toString().equals("void") || TYPES.contains(answer.toString()));
        return super.visitMethod(method, nothing);
    }

    @Override
    public Void visitVariable(VariableTree variable, Void nothing) {
        due.holds("rule 2: the type of " + variable, isAllowed(variable.getType()));
        if (getCurrentPath().getParentPath().getLeaf().getKind() == Tree.Kind.CLASS) {
            lookAtField(variable);
        }
        return super.visitVariable(variable, nothing);
    }

    private void lookAtField(VariableTree field) {
        Set<Modifier> modifiers = field.getModifiers().getFlags();
        boolean isArray = field.getType().getKind() == Tree.Kind.ARRAY_TYPE;
        boolean isFinal = modifiers.contains(Modifier.FINAL);
        if (modifiers.contains(Modifier.STATIC)) {
            String type = field.getType().toString();
            due.holds("rule 5: a constant: " + field,
                isFinal && field.getInitializer() != null && (type.equals("int") || type.equals("long")));
            return;
        }
        fields++;
        due.holds("rule 1: private: " + field, modifiers.contains(Modifier.PRIVATE));
        due.holds("rule 4: an array is never another: " + field, isFinal || !isArray);
    }

    private static boolean isAllowed(Tree type) {
        return type instanceof ArrayTypeTree array
            ? TYPES.contains(array.getType().toString())
            : TYPES.contains(String.valueOf(type));
    }

    @Override
    public Void visitNewArray(NewArrayTree array, Void nothing) {
        TreePath makes = getCurrentPath().getParentPath();
        boolean ofAField = makes.getLeaf().getKind() == Tree.Kind.VARIABLE
            && makes.getParentPath().getLeaf().getKind() == Tree.Kind.CLASS;
        due.holds("rule 4: made in a field's initialiser: " + array, ofAField);
        due.holds("rule 4: one length, a literal or a constant: " + array,
            array.getDimensions().size() == 1 && array.getInitializers() == null
                && array.getDimensions().get(0).toString().matches("[1-9][0-9]*|[A-Z_]+"));
        return super.visitNewArray(array, nothing);
    }

    @Override
    public Void visitMethodInvocation(MethodInvocationTree call, Void nothing) {
        due.holds("rule 3: a call without an object ahead: " + call, call.getMethodSelect() instanceof IdentifierTree);
        callees.get(methodAround()).add(call.getMethodSelect().toString());
        for (TreePath at = getCurrentPath().getParentPath(); at != null; at = at.getParentPath()) {
            due.holds("rule 10: no call inside another's arguments: " + call,
                at.getLeaf().getKind() != Tree.Kind.METHOD_INVOCATION);
        }
        return super.visitMethodInvocation(call, nothing);
    }

    private String methodAround() {
        TreePath at = getCurrentPath();
        while (at.getLeaf().getKind() != Tree.Kind.METHOD && at.getLeaf().getKind() != Tree.Kind.CLASS) {
            at = at.getParentPath();
        }
        boolean inMethod = at.getLeaf() instanceof MethodTree;
        due.holds("rule 4: no call in a field's initialiser: " + getCurrentPath().getLeaf(), inMethod);
        return inMethod ? ((MethodTree) at.getLeaf()).getName().toString() : "<init>";
    }

    @Override
    public Void visitMemberSelect(MemberSelectTree select, Void nothing) {
        boolean isThis = select.getExpression().toString().equals("this");
        due.holds("rule 3: nothing of another class: " + select, isThis || select.getIdentifier().contentEquals("length"));
        return super.visitMemberSelect(select, nothing);
    }

    @Override
    public Void visitTypeCast(TypeCastTree cast, Void nothing) {
        due.holds("rule 6: a cast between number types: " + cast, TYPES.contains(cast.getType().toString()));
        return super.visitTypeCast(cast, nothing);
    }

    @Override
    public Void visitForLoop(ForLoopTree loop, Void nothing) {
        ExpressionTree condition = loop.getCondition();
        String head = loop.getInitializer() + " " + condition + " " + loop.getUpdate();
        due.holds("rule 8: a counter against a bound: " + head,
            head.matches("int (\\w+) = \\d+ \\1 < \\w+ \\1(\\+\\+| \\+= [1-9]\\d*);?"));
        return super.visitForLoop(loop, nothing);
    }

    private void lookAtTheWhole() {
        due.is("rule 1: classes", classes, 1);
        due.holds("rule 10: fields", fields <= MOST_FIELDS);
        for (String name : privateNames) {
            due.holds("rule 1: no public method is called " + name, !publicNames.contains(name));
        }
        callees.values().forEach(names -> names.forEach(name ->
            due.holds("rule 3: a method of the class: " + name, callees.containsKey(name))));
        for (String name : callees.keySet()) {
            int deep = callsDeep(name);
            due.holds("rules 8 and 10: calls from " + name + " go " + deep + " deep", deep <= MOST_CALLS_DEEP);
        }
    }

    /** The methods on the longest way from this one on, itself among them; a way that comes back is longer than all. */
    private int callsDeep(String start) {
        Set<String> reached = Set.of(start);
        int deep = 0;
        while (!reached.isEmpty() && deep <= callees.size()) {
            Set<String> next = new HashSet<>();
            reached.forEach(name -> next.addAll(callees.getOrDefault(name, Set.of())));
            reached = next;
            deep++;
        }
        return reached.isEmpty() ? deep : Integer.MAX_VALUE;
    }

    private long lines(MethodTree method) {
        long start = trees.getSourcePositions().getStartPosition(unit, method);
        long end = trees.getSourcePositions().getEndPosition(unit, method);
        return unit.getLineMap().getLineNumber(end) - unit.getLineMap().getLineNumber(start) + 1;
    }
}
