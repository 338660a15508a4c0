import com.sun.source.tree.ArrayTypeTree;
import com.sun.source.tree.AssertTree;
import com.sun.source.tree.AssignmentTree;
import com.sun.source.tree.BlockTree;
import com.sun.source.tree.ClassTree;
import com.sun.source.tree.CompilationUnitTree;
import com.sun.source.tree.ExpressionTree;
import com.sun.source.tree.IdentifierTree;
import com.sun.source.tree.InstanceOfTree;
import com.sun.source.tree.LambdaExpressionTree;
import com.sun.source.tree.LiteralTree;
import com.sun.source.tree.MemberReferenceTree;
import com.sun.source.tree.MemberSelectTree;
import com.sun.source.tree.MethodInvocationTree;
import com.sun.source.tree.MethodTree;
import com.sun.source.tree.NewArrayTree;
import com.sun.source.tree.NewClassTree;
import com.sun.source.tree.PrimitiveTypeTree;
import com.sun.source.tree.SynchronizedTree;
import com.sun.source.tree.ThrowTree;
import com.sun.source.tree.Tree;
import com.sun.source.tree.TryTree;
import com.sun.source.tree.TypeCastTree;
import com.sun.source.tree.VariableTree;
import com.sun.source.util.JavacTask;
import com.sun.source.util.SourcePositions;
import com.sun.source.util.TreePathScanner;
import com.sun.source.util.Trees;
import java.io.IOException;
import java.io.StringWriter;
import java.nio.file.Path;
import java.util.HashMap;
import java.util.HashSet;
import java.util.List;
import java.util.Map;
import java.util.Set;
import java.util.TreeSet;
import javax.lang.model.element.Modifier;
import javax.lang.model.type.TypeKind;
import javax.tools.JavaCompiler;
import javax.tools.StandardJavaFileManager;
import javax.tools.ToolProvider;

/** The rules of LANGUAGE.md that can be seen in the tree of the class, whatever its layout. */
public final class LanguageRules extends TreePathScanner<Void, Void> {
    private static final Path FILE = Path.of("src/main/java/WarpDesk.java");
    private static final Set<String> FACE = Set.of("int token(int,int)", "int wipe()", "int wrong()", "int put(int,int)",
        "void zero()", "int run(int,int)", "int word(int)", "int counter(int)", "int variable(int,int)", "int ran(int)",
        "int steps(int)", "int done(int)", "WarpDesk()");
    private static final Set<String> CONSTANTS = Set.of("OK", "OVER", "NONE");
    private static final Set<TypeKind> TYPES = Set.of(TypeKind.INT, TypeKind.LONG, TypeKind.SHORT, TypeKind.BYTE, TypeKind.CHAR,
        TypeKind.BOOLEAN, TypeKind.VOID);
    private static final Set<Tree.Kind> PLAIN = Set.of(Tree.Kind.NEW_ARRAY, Tree.Kind.VARIABLE, Tree.Kind.ASSIGNMENT,
        Tree.Kind.EXPRESSION_STATEMENT, Tree.Kind.BLOCK);
    private static final int MAX_LINES = 62;

    private final CompilationUnitTree unit;
    private final SourcePositions positions;
    private final Set<String> constants = new HashSet<>();
    private final Set<String> arrayFields = new HashSet<>();
    private final Set<String> face = new TreeSet<>();
    private final Set<String> openNames = new HashSet<>();
    private final Set<String> hiddenNames = new HashSet<>();
    private final Map<String, Set<String>> calls = new HashMap<>();
    private int fields = 0;
    private int argumentsOpen = 0;

    public static void main(String[] args) {
        Checks.begin();
        Checks.holds("LANGUAGE.md", "the rules", LanguageRules::look);
        Checks.end();
    }

    private static void look() {
        JavaCompiler compiler = ToolProvider.getSystemJavaCompiler();
        try (StandardJavaFileManager files = compiler.getStandardFileManager(null, null, null)) {
            JavacTask task = (JavacTask) compiler.getTask(new StringWriter(), files, null, List.of("--release", "17"), null,
                files.getJavaFileObjects(FILE));
            for (CompilationUnitTree unit : task.parse()) {
                LanguageRules rules = new LanguageRules(unit, Trees.instance(task).getSourcePositions());
                rules.lookAtUnit();
            }
        } catch (IOException fault) {
            throw new IllegalStateException(fault);
        }
    }

    private LanguageRules(CompilationUnitTree unit, SourcePositions positions) {
        this.unit = unit;
        this.positions = positions;
    }

    private void lookAtUnit() {
        rule(3, unit, unit.getImports().isEmpty() && unit.getPackageName() == null, "import or package");
        rule(1, unit, unit.getTypeDecls().size() == 1, "more than one type");
        for (Tree member : ((ClassTree) unit.getTypeDecls().get(0)).getMembers()) {
            if (member instanceof VariableTree) {
                noteField((VariableTree) member);
            }
        }
        scan(unit, null);
        if (!openNames.contains("WarpDesk")) {
            face.add("WarpDesk()");
        }
        rule(1, unit, face.equals(new TreeSet<>(FACE)), "the face is " + face);
        for (String name : hiddenNames) {
            rule(1, unit, !openNames.contains(name), "a private method bears the public name " + name);
        }
        rule(10, unit, fields <= 40, fields + " fields");
        for (String method : calls.keySet()) {
            int depth = depth(method, 1);
            rule(depth > calls.size() ? 8 : 10, unit, depth <= 6, method + " calls " + depth + " deep");
        }
    }

    private void noteField(VariableTree field) {
        String name = field.getName().toString();
        boolean isStatic = field.getModifiers().getFlags().contains(Modifier.STATIC);
        if (isStatic) {
            constants.add(name);
        } else {
            fields++;
        }
        if (field.getType() instanceof ArrayTypeTree) {
            arrayFields.add(name);
        }
    }

    private int depth(String method, int above) {
        int deepest = above;
        if (above > calls.size()) {
            return above;
        }
        for (String called : calls.getOrDefault(method, Set.of())) {
            deepest = Math.max(deepest, depth(called, above + 1));
        }
        return deepest;
    }

    @Override
    public Void visitClass(ClassTree type, Void none) {
        boolean outer = getCurrentPath().getParentPath().getLeaf() == unit;
        Set<Modifier> flags = type.getModifiers().getFlags();
        rule(1, type, outer && type.getKind() == Tree.Kind.CLASS, "a nested or other type");
        rule(1, type, flags.contains(Modifier.PUBLIC) && flags.contains(Modifier.FINAL), "public and final");
        rule(1, type, type.getSimpleName().contentEquals("WarpDesk"), "the name");
        rule(2, type, type.getExtendsClause() == null && type.getImplementsClause().isEmpty(), "another class");
        return super.visitClass(type, none);
    }

    @Override
    public Void visitMethod(MethodTree method, Void none) {
        Set<Modifier> flags = method.getModifiers().getFlags();
        boolean constructor = method.getReturnType() == null;
        String name = constructor ? "WarpDesk" : method.getName().toString();
        rule(2, method, !(method.getReturnType() instanceof ArrayTypeTree), "an array is answered");
        rule(3, method, method.getModifiers().getAnnotations().isEmpty(), "an annotation");
        rule(10, method, method.getParameters().size() <= 7, "parameters");
        rule(10, method, lines(method) <= MAX_LINES, lines(method) + " lines");
        if (flags.contains(Modifier.PRIVATE)) {
            hiddenNames.add(name);
        } else {
            openNames.add(name);
            rule(1, method, flags.equals(Set.of(Modifier.PUBLIC)), "a method that is not private");
            StringBuilder types = new StringBuilder();
            for (VariableTree parameter : method.getParameters()) {
                types.append(types.length() == 0 ? "" : ",").append(parameter.getType());
            }
            face.add((constructor ? "" : method.getReturnType() + " ") + name + "(" + types + ")");
        }
        calls.computeIfAbsent(name, key -> new TreeSet<>());
        return super.visitMethod(method, none);
    }

    @Override
    public Void visitVariable(VariableTree variable, Void none) {
        boolean field = getCurrentPath().getParentPath().getLeaf() instanceof ClassTree;
        Set<Modifier> flags = variable.getModifiers().getFlags();
        Tree type = variable.getType();
        if (field) {
            boolean open = CONSTANTS.contains(variable.getName().toString());
            rule(1, variable, flags.contains(open ? Modifier.PUBLIC : Modifier.PRIVATE), "seen by others, or not");
        }
        if (field && flags.contains(Modifier.STATIC)) {
            String written = type.toString();
            rule(5, variable, written.equals("int") || written.equals("long"), "the type of a static field");
            rule(5, variable, flags.contains(Modifier.FINAL) && variable.getInitializer() != null, "no constant");
        }
        boolean simple = type instanceof PrimitiveTypeTree
            || type instanceof ArrayTypeTree && ((ArrayTypeTree) type).getType() instanceof PrimitiveTypeTree;
        rule(2, variable, simple, "the type " + type);
        return super.visitVariable(variable, none);
    }

    @Override
    public Void visitPrimitiveType(PrimitiveTypeTree type, Void none) {
        rule(2, type, TYPES.contains(type.getPrimitiveTypeKind()), "the type " + type);
        return null;
    }

    @Override
    public Void visitNewArray(NewArrayTree made, Void none) {
        rule(4, made, made.getInitializers() == null && made.getDimensions().size() == 1, "an array of other form");
        for (ExpressionTree length : made.getDimensions()) {
            boolean fixed = length instanceof LiteralTree
                || length instanceof IdentifierTree && constants.contains(((IdentifierTree) length).getName().toString());
            rule(4, made, fixed, "an array's length is " + length);
        }
        rule(4, made, atStart(), "an array is made too late");
        return super.visitNewArray(made, none);
    }

    // In a field's initialiser, or in the constructor, but not in a loop and not behind a condition.
    private boolean atStart() {
        for (Tree above : getCurrentPath()) {
            if (above instanceof ClassTree) {
                return true;
            }
            if (above instanceof MethodTree) {
                return ((MethodTree) above).getReturnType() == null;
            }
            if (!PLAIN.contains(above.getKind())) {
                return false;
            }
        }
        return false;
    }

    @Override
    public Void visitBlock(BlockTree block, Void none) {
        boolean initialiser = getCurrentPath().getParentPath().getLeaf() instanceof ClassTree;
        rule(5, block, !initialiser, "an initialiser");
        return super.visitBlock(block, none);
    }

    @Override
    public Void visitMethodInvocation(MethodInvocationTree call, Void none) {
        String name = call.getMethodSelect().toString().replaceFirst("^this\\.", "");
        if (name.equals("super")) {
            return null;
        }
        rule(3, call, !name.contains("."), "a call of another class's method " + name);
        rule(10, call, argumentsOpen == 0, name + " is called inside the arguments of a call");
        calls.computeIfAbsent(methodAround(), key -> new TreeSet<>()).add(name);
        argumentsOpen++;
        scan(call.getArguments(), none);
        argumentsOpen--;
        return null;
    }

    private String methodAround() {
        for (Tree above : getCurrentPath()) {
            if (above instanceof MethodTree) {
                MethodTree method = (MethodTree) above;
                return method.getReturnType() == null ? "WarpDesk" : method.getName().toString();
            }
        }
        return "WarpDesk";
    }

    @Override
    public Void visitMemberSelect(MemberSelectTree select, Void none) {
        boolean own = select.getExpression().toString().equals("this");
        boolean length = select.getIdentifier().contentEquals("length");
        rule(3, select, own || length, "a member of something else: " + select);
        return super.visitMemberSelect(select, none);
    }

    @Override
    public Void visitAssignment(AssignmentTree assignment, Void none) {
        String name = assignment.getVariable().toString().replaceFirst("^this\\.", "");
        boolean inConstructor = methodAround().equals("WarpDesk");
        rule(4, assignment, inConstructor || !arrayFields.contains(name), "a method assigns to the array " + name);
        return super.visitAssignment(assignment, none);
    }

    @Override
    public Void visitLiteral(LiteralTree literal, Void none) {
        Tree.Kind kind = literal.getKind();
        boolean number = kind == Tree.Kind.INT_LITERAL || kind == Tree.Kind.LONG_LITERAL || kind == Tree.Kind.CHAR_LITERAL
            || kind == Tree.Kind.BOOLEAN_LITERAL;
        rule(2, literal, number, "the literal " + literal);
        return null;
    }

    @Override
    public Void visitNewClass(NewClassTree made, Void none) {
        rule(2, made, false, "an object is made");
        return null;
    }

    @Override
    public Void visitTypeCast(TypeCastTree cast, Void none) {
        rule(6, cast, cast.getType() instanceof PrimitiveTypeTree, "a cast of a reference");
        return super.visitTypeCast(cast, none);
    }

    @Override
    public Void visitThrow(ThrowTree tree, Void none) {
        return barred(tree);
    }

    @Override
    public Void visitTry(TryTree tree, Void none) {
        return barred(tree);
    }

    @Override
    public Void visitSynchronized(SynchronizedTree tree, Void none) {
        return barred(tree);
    }

    @Override
    public Void visitAssert(AssertTree tree, Void none) {
        return barred(tree);
    }

    @Override
    public Void visitInstanceOf(InstanceOfTree tree, Void none) {
        return barred(tree);
    }

    @Override
    public Void visitLambdaExpression(LambdaExpressionTree tree, Void none) {
        return barred(tree);
    }

    @Override
    public Void visitMemberReference(MemberReferenceTree tree, Void none) {
        return barred(tree);
    }

    private Void barred(Tree tree) {
        rule(6, tree, false, tree.getKind().toString());
        return null;
    }

    private long lines(Tree tree) {
        return line(positions.getEndPosition(unit, tree)) - line(positions.getStartPosition(unit, tree)) + 1;
    }

    private long line(long position) {
        return unit.getLineMap().getLineNumber(Math.max(0, position));
    }

    private void rule(int number, Tree where, boolean kept, String what) {
        String place = "rule " + number + ", line " + line(positions.getStartPosition(unit, where)) + ": " + what;
        Checks.due(place, kept ? 0 : 1, 0);
    }
}
