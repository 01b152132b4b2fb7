import com.sun.source.tree.ArrayTypeTree;
import com.sun.source.tree.AssertTree;
import com.sun.source.tree.AssignmentTree;
import com.sun.source.tree.BinaryTree;
import com.sun.source.tree.BlockTree;
import com.sun.source.tree.ClassTree;
import com.sun.source.tree.CompoundAssignmentTree;
import com.sun.source.tree.DoWhileLoopTree;
import com.sun.source.tree.EnhancedForLoopTree;
import com.sun.source.tree.ExpressionTree;
import com.sun.source.tree.ForLoopTree;
import com.sun.source.tree.IdentifierTree;
import com.sun.source.tree.InstanceOfTree;
import com.sun.source.tree.LambdaExpressionTree;
import com.sun.source.tree.LiteralTree;
import com.sun.source.tree.MemberReferenceTree;
import com.sun.source.tree.MemberSelectTree;
import com.sun.source.tree.MethodInvocationTree;
import com.sun.source.tree.MethodTree;
import com.sun.source.tree.NewArrayTree;
import com.sun.source.tree.NewClassTree;
import com.sun.source.tree.PrimitiveTypeTree;
import com.sun.source.tree.SynchronizedTree;
import com.sun.source.tree.ThrowTree;
import com.sun.source.tree.Tree;
import com.sun.source.tree.Tree.Kind;
import com.sun.source.tree.TryTree;
import com.sun.source.tree.TypeCastTree;
import com.sun.source.tree.UnaryTree;
import com.sun.source.tree.VariableTree;
import com.sun.source.tree.WhileLoopTree;
import java.io.IOException;
import java.nio.file.Path;
import java.util.List;
import java.util.Map;
import java.util.Set;
import java.util.TreeMap;
import java.util.TreeSet;
import java.util.stream.Collectors;
import java.util.stream.Stream;
import javax.lang.model.element.Modifier;
import javax.lang.model.type.TypeKind;

/**
 * The rules of LANGUAGE.md that can be seen in the source. Where a rule leaves more than the program uses, the narrower way
 * of the program is looked for: arrays in the fields' initialisers alone, and every loop a for with a counter of its own.
 */
public final class LanguageTest {
    private static final Path FILE = Path.of("src/main/java/PathQueries.java");
    private static final Set<Kind> NUMBERS = Set.of(Kind.INT_LITERAL, Kind.LONG_LITERAL, Kind.CHAR_LITERAL,
            Kind.BOOLEAN_LITERAL);
    // Which comparisons come to an end when the counter is stepped that way.
    private static final Map<Kind, Set<Kind>> BOUNDS = Map.of(
            Kind.POSTFIX_INCREMENT, Set.of(Kind.LESS_THAN),
            Kind.POSTFIX_DECREMENT, Set.of(Kind.GREATER_THAN, Kind.GREATER_THAN_EQUAL));
    private static final Set<Kind> STEPS = Set.of(Kind.POSTFIX_INCREMENT, Kind.POSTFIX_DECREMENT, Kind.PREFIX_INCREMENT,
            Kind.PREFIX_DECREMENT);
    private static final List<Class<? extends Tree>> LEFT_OUT = List.of(ThrowTree.class, TryTree.class,
            SynchronizedTree.class, AssertTree.class, InstanceOfTree.class, LambdaExpressionTree.class,
            MemberReferenceTree.class, NewClassTree.class, WhileLoopTree.class, DoWhileLoopTree.class,
            EnhancedForLoopTree.class);
    private static final int DEEPEST = 6;
    private static final Due due = new Due();

    private final Source source;
    private final Map<String, Set<String>> calls = new TreeMap<>();

    private LanguageTest(Source source) {
        this.source = source;
        for (MethodTree method : source.methods()) {
            Set<String> called = Source.all(method.getBody(), MethodInvocationTree.class).stream()
                    .map(LanguageTest::calledName).collect(Collectors.toCollection(TreeSet::new));
            calls.put(method.getName().toString(), called);
        }
    }

    public static void main(String[] args) throws IOException {
        LanguageTest test = new LanguageTest(new Source(FILE));
        due.run(test::oneClass, test::privateNames, test::types, test::noLibrary, test::arrays, test::constants,
                test::leftOut, test::loops, test::noRecursion, test::shortMethods);
    }

    private void none(String what, Stream<? extends Tree> parts) {
        List<String> found = parts.map(source::place).toList();
        due.same(what, found.toString(), "[]");
    }

    private <T extends Tree> Stream<T> all(Class<T> kind) {
        return Source.all(source.unit, kind).stream();
    }

    private void oneClass() {
        due.about("Rule 1: one class, without a package line");
        due.is("types", source.unit.getTypeDecls().size(), 1);
        due.is("the class and those in it", all(ClassTree.class).count(), 1);
        due.same("the package", String.valueOf(source.unit.getPackage()), "null");
        due.same("the modifiers", source.program.getModifiers().toString().trim(), "public final");
    }

    private void privateNames() {
        due.about("Rule 1: no private method bears the name of a public one");
        // Each name is there once, so that the calls between methods can be told by names.
        due.is("different names", calls.size(), source.methods().size());
    }

    private void types() {
        due.about("Rule 2: whole numbers, booleans and arrays of one dimension");
        Stream<Tree> declared = all(VariableTree.class).map(VariableTree::getType);
        Stream<Tree> answered = source.methods().stream().map(MethodTree::getReturnType).filter(type -> type != null);
        Stream<Tree> cast = all(TypeCastTree.class).map(TypeCastTree::getType);
        none("types of variables", declared.filter(type -> !isPlain(type) && !isArray(type)));
        none("types of answers", answered.filter(type -> !isPlain(type) && !isVoid(type)));
        none("types of casts", cast.filter(type -> !isPlain(type)));
        none("literals", all(LiteralTree.class).filter(literal -> !NUMBERS.contains(literal.getKind())));
    }

    private void noLibrary() {
        due.about("Rule 3: no class of the library, and none of Object's methods");
        due.is("imports", source.unit.getImports().size(), 0);
        none("what is not this object's", all(MemberSelectTree.class)
                .filter(select -> !select.getExpression().toString().equals("this")));
        none("calls of methods from elsewhere", all(MethodInvocationTree.class)
                .filter(call -> !calls.containsKey(calledName(call))));
    }

    private void arrays() {
        due.about("Rule 4: arrays are made in the fields' initialisers and stay there");
        List<VariableTree> arrays = source.fields().stream().filter(field -> isArray(field.getType())).toList();
        due.is("arrays made", all(NewArrayTree.class).count(), arrays.size());
        none("fields without an array of their own", arrays.stream().filter(field -> !isMade(field.getInitializer())));
        none("arrays that may be assigned to", arrays.stream().filter(field -> !has(field, Modifier.FINAL)));
        none("local names of arrays", source.methods().stream()
                .flatMap(method -> Source.all(method, VariableTree.class).stream())
                .filter(local -> !isPlain(local.getType())));
    }

    private void constants() {
        due.about("Rule 5: static fields are constants of int or long");
        none("others", source.fields().stream().filter(Source::isStatic)
                .filter(field -> !has(field, Modifier.FINAL)
                || !Set.of("int", "long").contains(field.getType().toString())));
        due.is("initialisers", source.program.getMembers().stream().filter(BlockTree.class::isInstance).count(), 0);
    }

    private void leftOut() {
        due.about("Rules 4, 6 and 8: what is left out of the language");
        for (Class<? extends Tree> kind : LEFT_OUT) {
            none(kind.getSimpleName(), all(kind));
        }
    }

    private void loops() {
        due.about("Rule 8: every loop counts against a bound");
        none("other loops", all(ForLoopTree.class).filter(loop -> !counts(loop)));
    }

    private void noRecursion() {
        due.about("Rules 8 and 10: no recursion, and calls go at most six deep");
        for (String name : calls.keySet()) {
            due.is(name + " goes deeper than six", depth(name, 1) > DEEPEST ? 1 : 0, 0);
        }
    }

    private void shortMethods() {
        due.about("Rule 10: short methods, few parameters and fields, no call in the arguments of another");
        none("long methods", source.methods().stream().filter(method -> source.lines(method) > 60));
        none("more than seven parameters", source.methods().stream().filter(method -> method.getParameters().size() > 7));
        none("calls in arguments", all(MethodInvocationTree.class).flatMap(call -> call.getArguments().stream())
                .filter(argument -> !Source.all(argument, MethodInvocationTree.class).isEmpty()));
        long fields = source.fields().stream().filter(field -> !Source.isStatic(field)).count();
        due.is("more than forty fields", fields > 40 ? fields : 0, 0);
    }

    private static String calledName(MethodInvocationTree call) {
        return call.getMethodSelect().toString();
    }

    private static boolean has(VariableTree field, Modifier modifier) {
        return field.getModifiers().getFlags().contains(modifier);
    }

    private static boolean isVoid(Tree type) {
        return type instanceof PrimitiveTypeTree primitive && primitive.getPrimitiveTypeKind() == TypeKind.VOID;
    }

    private static boolean isPlain(Tree type) {
        return type instanceof PrimitiveTypeTree primitive
                && !Set.of(TypeKind.VOID, TypeKind.FLOAT, TypeKind.DOUBLE).contains(primitive.getPrimitiveTypeKind());
    }

    private static boolean isArray(Tree type) {
        return type instanceof ArrayTypeTree array && isPlain(array.getType());
    }

    /** Whether an initialiser makes an array of a length that is a literal or a constant. */
    private boolean isMade(ExpressionTree initialiser) {
        return initialiser instanceof NewArrayTree made && made.getDimensions().size() == 1
                && (made.getDimensions().get(0) instanceof LiteralTree || isConstant(made.getDimensions().get(0)));
    }

    private boolean isConstant(ExpressionTree length) {
        return source.fields().stream().filter(Source::isStatic)
                .anyMatch(field -> field.getName().contentEquals(length.toString()));
    }

    /** Whether a loop steps its own counter by one against a bound, and nothing in it assigns to either. */
    private static boolean counts(ForLoopTree loop) {
        if (loop.getInitializer().size() != 1 || loop.getUpdate().size() != 1
                || !(loop.getInitializer().get(0) instanceof VariableTree counter)
                || !(loop.getCondition() instanceof BinaryTree condition)
                || !(loop.getUpdate().get(0).getExpression() instanceof UnaryTree step)) {
            return false;
        }
        String name = counter.getName().toString();
        Set<String> assigned = assigned(loop.getStatement());
        return condition.getLeftOperand().toString().equals(name) && step.getExpression().toString().equals(name)
                && BOUNDS.getOrDefault(step.getKind(), Set.of()).contains(condition.getKind())
                && Source.all(condition, IdentifierTree.class).stream().map(Tree::toString).noneMatch(assigned::contains);
    }

    private static Set<String> assigned(Tree part) {
        Stream<Tree> plain = Source.all(part, AssignmentTree.class).stream().map(AssignmentTree::getVariable);
        Stream<Tree> compound = Source.all(part, CompoundAssignmentTree.class).stream()
                .map(CompoundAssignmentTree::getVariable);
        Stream<Tree> stepped = Source.all(part, UnaryTree.class).stream().filter(unary -> STEPS.contains(unary.getKind()))
                .map(UnaryTree::getExpression);
        return Stream.of(plain, compound, stepped).flatMap(each -> each).map(Tree::toString).collect(Collectors.toSet());
    }

    /** How many methods are under way at once at most; no further than one too many, for a circle has no end. */
    private int depth(String name, int before) {
        int deepest = before;
        for (String called : calls.getOrDefault(name, Set.of())) {
            deepest = before > DEEPEST ? before : Math.max(deepest, depth(called, before + 1));
        }
        return deepest;
    }
}
