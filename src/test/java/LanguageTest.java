import com.sun.source.tree.ArrayTypeTree;
import com.sun.source.tree.AssignmentTree;
import com.sun.source.tree.ClassTree;
import com.sun.source.tree.CompilationUnitTree;
import com.sun.source.tree.ExpressionTree;
import com.sun.source.tree.ForLoopTree;
import com.sun.source.tree.IdentifierTree;
import com.sun.source.tree.MethodInvocationTree;
import com.sun.source.tree.MethodTree;
import com.sun.source.tree.NewArrayTree;
import com.sun.source.tree.PrimitiveTypeTree;
import com.sun.source.tree.Tree;
import com.sun.source.tree.Tree.Kind;
import com.sun.source.tree.TypeCastTree;
import com.sun.source.tree.VariableTree;
import com.sun.source.util.JavacTask;
import com.sun.source.util.SourcePositions;
import com.sun.source.util.TreeScanner;
import com.sun.source.util.Trees;
import java.io.IOException;
import java.nio.file.Path;
import java.util.EnumSet;
import java.util.HashSet;
import java.util.Map;
import java.util.Set;
import java.util.TreeMap;
import java.util.TreeSet;
import javax.lang.model.element.Modifier;
import javax.lang.model.type.TypeKind;
import javax.tools.JavaCompiler;
import javax.tools.StandardJavaFileManager;
import javax.tools.ToolProvider;

/**
 * The rules of LANGUAGE.md that can be seen in the source of the class, in the narrow form in which
 * it keeps to them: arrays are made in field initialisers alone, every loop is a for with a
 * condition, and nothing is reached with a dot. Rule 1 is FaceTest's. That no index is wrong (rule
 * 7) and that a loop's bound is the right one (rule 8) is left to the other tests and the reader.
 */
public final class LanguageTest extends TreeScanner<Void, Void> {
    private static final Path SOURCE = Path.of("src/main/java/PathRanker.java");

    private static final Set<TypeKind> VALUES = EnumSet.of(
            TypeKind.INT, TypeKind.LONG, TypeKind.SHORT, TypeKind.BYTE, TypeKind.CHAR, TypeKind.BOOLEAN);
    private static final Set<Kind> RULED_OUT = EnumSet.of(
            Kind.PACKAGE, Kind.IMPORT, Kind.ANNOTATION, Kind.NEW_CLASS, Kind.MEMBER_SELECT,
            Kind.NULL_LITERAL, Kind.STRING_LITERAL, Kind.FLOAT_LITERAL, Kind.DOUBLE_LITERAL,
            Kind.THROW, Kind.TRY, Kind.CATCH, Kind.SYNCHRONIZED, Kind.ASSERT, Kind.INSTANCE_OF,
            Kind.LAMBDA_EXPRESSION, Kind.MEMBER_REFERENCE,
            Kind.WHILE_LOOP, Kind.DO_WHILE_LOOP, Kind.ENHANCED_FOR_LOOP);

    private static final int MOST_PARAMETERS = 7;
    private static final int MOST_LINES = 60;
    private static final int MOST_CALLS_DEEP = 6;
    private static final int MOST_FIELDS = 40;

    private final CompilationUnitTree file;
    private final SourcePositions positions;

    private final Set<String> constants = new HashSet<>();
    private final Set<String> fields = new HashSet<>();
    private final Set<String> arrayFields = new HashSet<>();
    private final Map<String, Set<String>> calls = new TreeMap<>();

    // While a method is read; null and empty between methods.
    private String method = null;
    private final Set<String> locals = new HashSet<>();
    private int argumentsAround = 0;

    private LanguageTest(CompilationUnitTree file, SourcePositions positions) {
        this.file = file;
        this.positions = positions;
    }

    public static void main(String[] args) throws IOException {
        JavaCompiler compiler = ToolProvider.getSystemJavaCompiler();
        try (StandardJavaFileManager files = compiler.getStandardFileManager(null, null, null)) {
            JavacTask task = (JavacTask) compiler.getTask(null, files, null, null, null, files.getJavaFileObjects(SOURCE));
            for (CompilationUnitTree file : task.parse()) {
                new LanguageTest(file, Trees.instance(task).getSourcePositions()).read();
            }
        }
        Due.end();
    }

    private void read() {
        Due.is("LANGUAGE 1: classes in the file", 1, file.getTypeDecls().size());
        for (Tree member : ((ClassTree) file.getTypeDecls().get(0)).getMembers()) {
            learn(member);
        }
        scan(file, null);
        Due.is("LANGUAGE 10: at most " + MOST_FIELDS + " fields", true, fields.size() <= MOST_FIELDS);
        for (String from : calls.keySet()) {
            int deep = callsDeep(from, new HashSet<>());
            Due.is("LANGUAGE 8 and 10: " + from + " goes " + deep + " calls deep", true, deep <= MOST_CALLS_DEEP);
        }
    }

    private void learn(Tree member) {
        if (member instanceof MethodTree) {
            String name = ((MethodTree) member).getName().toString();
            // Two methods of one name would be taken for one in the chains of calls.
            due("1: one method named " + name, member, !calls.containsKey(name));
            calls.put(name, new TreeSet<>());
        } else if (member instanceof VariableTree) {
            learnField((VariableTree) member);
        } else {
            due("5: a member is a field or a method", member, false);
        }
    }

    private void learnField(VariableTree field) {
        String name = field.getName().toString();
        Set<Modifier> modifiers = field.getModifiers().getFlags();
        if (modifiers.contains(Modifier.STATIC)) {
            boolean whole = isPrimitive(field.getType(), EnumSet.of(TypeKind.INT, TypeKind.LONG));
            due("5: constant " + name, field, whole && modifiers.contains(Modifier.FINAL) && field.getInitializer() != null);
            constants.add(name);
        } else {
            fields.add(name);
        }
        if (field.getType() instanceof ArrayTypeTree) {
            arrayFields.add(name);
        }
    }

    @Override
    public Void scan(Tree tree, Void nothing) {
        if (tree != null) {
            due("2, 3, 4, 6 or 8: " + tree.getKind(), tree, !RULED_OUT.contains(tree.getKind()));
        }
        return super.scan(tree, nothing);
    }

    @Override
    public Void visitMethod(MethodTree tree, Void nothing) {
        method = tree.getName().toString();
        due("10: parameters of " + method, tree, tree.getParameters().size() <= MOST_PARAMETERS);
        due("10: lines of " + method, tree, lastLine(tree) - line(tree) < MOST_LINES);
        due("2 and 4: answer of " + method, tree, tree.getReturnType() == null
                || isPrimitive(tree.getReturnType(), VALUES) || isPrimitive(tree.getReturnType(), EnumSet.of(TypeKind.VOID)));
        super.visitMethod(tree, nothing);
        method = null;
        locals.clear();
        return null;
    }

    @Override
    public Void visitVariable(VariableTree tree, Void nothing) {
        Tree type = tree.getType();
        Tree values = type instanceof ArrayTypeTree ? ((ArrayTypeTree) type).getType() : type;
        due("2: type of " + tree.getName(), tree, isPrimitive(values, VALUES));
        if (method != null) {
            locals.add(tree.getName().toString());
        }
        return super.visitVariable(tree, nothing);
    }

    @Override
    public Void visitNewArray(NewArrayTree tree, Void nothing) {
        boolean oneLength = tree.getDimensions().size() == 1 && tree.getInitializers() == null;
        due("4: an array is made in a field's initialiser", tree, method == null && oneLength);
        for (ExpressionTree length : tree.getDimensions()) {
            due("4: the length is a constant", length, constants.contains(length.toString()));
        }
        return super.visitNewArray(tree, nothing);
    }

    @Override
    public Void visitAssignment(AssignmentTree tree, Void nothing) {
        due("4: no array field is assigned to", tree, !arrayFields.contains(tree.getVariable().toString()));
        return super.visitAssignment(tree, nothing);
    }

    @Override
    public Void visitMethodInvocation(MethodInvocationTree tree, Void nothing) {
        String callee = tree.getMethodSelect().toString();
        due("3: " + callee + " is a method of the class", tree, calls.containsKey(callee));
        due("10: no call inside the arguments of another", tree, argumentsAround == 0);
        due("4: no call outside of methods", tree, method != null);
        if (method != null) {
            calls.get(method).add(callee);
        }
        argumentsAround++;
        scan(tree.getArguments(), nothing);
        argumentsAround--;
        return null;
    }

    @Override
    public Void visitIdentifier(IdentifierTree tree, Void nothing) {
        String name = tree.getName().toString();
        due("3: " + name + " is a name of the class", tree,
                locals.contains(name) || fields.contains(name) || constants.contains(name));
        return super.visitIdentifier(tree, nothing);
    }

    @Override
    public Void visitForLoop(ForLoopTree tree, Void nothing) {
        due("8: a loop has a condition and a counter", tree, tree.getCondition() != null && tree.getUpdate().size() == 1);
        return super.visitForLoop(tree, nothing);
    }

    @Override
    public Void visitTypeCast(TypeCastTree tree, Void nothing) {
        due("6: cast between number types", tree, isPrimitive(tree.getType(), VALUES));
        return super.visitTypeCast(tree, nothing);
    }

    private static boolean isPrimitive(Tree type, Set<TypeKind> kinds) {
        return type instanceof PrimitiveTypeTree && kinds.contains(((PrimitiveTypeTree) type).getPrimitiveTypeKind());
    }

    /** The number of methods in the longest chain of calls from this one; too many if it comes back to itself. */
    private int callsDeep(String from, Set<String> above) {
        if (!above.add(from)) {
            return MOST_CALLS_DEEP + 1;
        }
        int deepest = 0;
        for (String callee : calls.getOrDefault(from, Set.of())) {
            deepest = Math.max(deepest, callsDeep(callee, above));
        }
        above.remove(from);
        return deepest + 1;
    }

    private void due(String what, Tree at, boolean holds) {
        Due.is("LANGUAGE " + what + ", line " + line(at), true, holds);
    }

    private long line(Tree tree) {
        return file.getLineMap().getLineNumber(Math.max(0, positions.getStartPosition(file, tree)));
    }

    private long lastLine(Tree tree) {
        return file.getLineMap().getLineNumber(positions.getEndPosition(file, tree));
    }
}
