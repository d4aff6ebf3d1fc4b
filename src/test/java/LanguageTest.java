import com.sun.source.tree.ArrayTypeTree;
import com.sun.source.tree.AssertTree;
import com.sun.source.tree.AssignmentTree;
import com.sun.source.tree.BinaryTree;
import com.sun.source.tree.BlockTree;
import com.sun.source.tree.ClassTree;
import com.sun.source.tree.CompilationUnitTree;
import com.sun.source.tree.CompoundAssignmentTree;
import com.sun.source.tree.DoWhileLoopTree;
import com.sun.source.tree.EnhancedForLoopTree;
import com.sun.source.tree.ExpressionTree;
import com.sun.source.tree.ForLoopTree;
import com.sun.source.tree.IdentifierTree;
import com.sun.source.tree.InstanceOfTree;
import com.sun.source.tree.LambdaExpressionTree;
import com.sun.source.tree.LiteralTree;
import com.sun.source.tree.MemberReferenceTree;
import com.sun.source.tree.MemberSelectTree;
import com.sun.source.tree.MethodInvocationTree;
import com.sun.source.tree.MethodTree;
import com.sun.source.tree.NewArrayTree;
import com.sun.source.tree.NewClassTree;
import com.sun.source.tree.PrimitiveTypeTree;
import com.sun.source.tree.StatementTree;
import com.sun.source.tree.SynchronizedTree;
import com.sun.source.tree.ThrowTree;
import com.sun.source.tree.Tree;
import com.sun.source.tree.TryTree;
import com.sun.source.tree.TypeCastTree;
import com.sun.source.tree.UnaryTree;
import com.sun.source.tree.VariableTree;
import com.sun.source.tree.WhileLoopTree;
import com.sun.source.util.JavacTask;
import com.sun.source.util.TreeScanner;
import java.io.IOException;
import java.util.ArrayList;
import java.util.HashSet;
import java.util.List;
import java.util.Map;
import java.util.Set;
import java.util.TreeMap;
import java.util.TreeSet;
import javax.lang.model.element.Modifier;
import javax.lang.model.type.TypeKind;
import javax.tools.JavaCompiler;
import javax.tools.StandardJavaFileManager;
import javax.tools.ToolProvider;

/** The source keeps to those rules of LANGUAGE.md that can be read from it; some are read more strictly here. */
public final class LanguageTest {
    private static final String SOURCE = "src/main/java/CompactFit.java";

    private final CompilationUnitTree unit;
    private final ClassTree type;
    private final List<MethodTree> methods = new ArrayList<>();
    private final List<VariableTree> fields = new ArrayList<>();
    private final Set<String> constants = new HashSet<>();
    private final Set<String> arrayFields = new HashSet<>();
    private final Map<String, Set<String>> callsOf = new TreeMap<>();

    private LanguageTest(CompilationUnitTree unit) {
        this.unit = unit;
        this.type = (ClassTree) unit.getTypeDecls().get(0);
        for (Tree member : type.getMembers()) {
            if (member instanceof MethodTree method) {
                methods.add(method);
            } else if (member instanceof VariableTree field) {
                fields.add(field);
                note(field);
            }
        }
        for (MethodTree method : methods) {
            Set<String> called = callsOf.computeIfAbsent(method.getName().toString(), name -> new TreeSet<>());
            each(method, tree -> {
                if (tree instanceof MethodInvocationTree call) {
                    called.add(call.getMethodSelect().toString());
                }
            });
        }
    }

    private void note(VariableTree field) {
        if (isStatic(field)) {
            constants.add(field.getName().toString());
        }
        if (field.getType() instanceof ArrayTypeTree) {
            arrayFields.add(field.getName().toString());
        }
    }

    private static boolean isStatic(VariableTree field) {
        return field.getModifiers().getFlags().contains(Modifier.STATIC);
    }

    private static void each(Tree root, java.util.function.Consumer<Tree> look) {
        new TreeScanner<Void, Void>() {
            @Override
            public Void scan(Tree tree, Void nothing) {
                if (tree != null) {
                    look.accept(tree);
                }
                return super.scan(tree, nothing);
            }
        }.scan(root, null);
    }

    private static void hold(boolean held, String what) {
        if (!held) {
            Sentence.wrong(what);
        }
    }

    private void oneClass() {
        hold(unit.getPackage() == null, "there is no package line");
        hold(unit.getTypeDecls().size() == 1, "there is one class");
        each(type, tree -> hold(tree == type || !(tree instanceof ClassTree), "no class is nested"));
        each(type, tree -> hold(!(tree instanceof NewClassTree), "no object is made"));
    }

    private static boolean isWhole(Tree kind) {
        return kind instanceof PrimitiveTypeTree simple
            && simple.getPrimitiveTypeKind() != TypeKind.FLOAT && simple.getPrimitiveTypeKind() != TypeKind.DOUBLE;
    }

    private void typesAreWholeNumbers() {
        each(type, tree -> {
            if (tree instanceof VariableTree variable) {
                Tree kind = variable.getType();
                Tree part = kind instanceof ArrayTypeTree array ? array.getType() : kind;
                hold(isWhole(part), variable + " is of whole numbers");
            } else if (tree instanceof MethodTree method && method.getReturnType() != null) {
                hold(isWhole(method.getReturnType()), method.getName() + " answers a whole number or nothing");
            } else if (tree instanceof LiteralTree literal) {
                Object value = literal.getValue();
                boolean whole = value instanceof Integer || value instanceof Long || value instanceof Boolean;
                hold(whole || value instanceof Character, literal + " is a whole number");
            }
        });
    }

    /** Without a selected member there is no way to a class of the library. */
    private void noLibrary() {
        hold(unit.getImports().isEmpty(), "nothing is imported");
        each(type, tree -> {
            hold(!(tree instanceof MemberSelectTree), tree + " selects no member");
            if (tree instanceof MethodInvocationTree call) {
                String name = call.getMethodSelect().toString();
                hold(name.equals("super") || callsOf.containsKey(name), name + " is a method of the class");
            }
        });
    }

    private boolean isConstant(ExpressionTree value) {
        return value instanceof LiteralTree || value instanceof IdentifierTree && constants.contains(value.toString());
    }

    private void arraysAreMadeOnce() {
        for (VariableTree field : fields) {
            if (field.getType() instanceof ArrayTypeTree) {
                boolean made = field.getInitializer() instanceof NewArrayTree array
                    && array.getDimensions().size() == 1 && array.getInitializers() == null
                    && isConstant(array.getDimensions().get(0));
                hold(made, field.getName() + " is made in its initialiser with a constant length");
                hold(!isStatic(field), field.getName() + " is not static");
            }
        }
        for (MethodTree method : methods) {
            each(method, tree -> {
                hold(!(tree instanceof NewArrayTree), method.getName() + " makes no array");
                hold(!(tree instanceof VariableTree local && local.getType() instanceof ArrayTypeTree),
                    method.getName() + " has no array as parameter or local");
                if (tree instanceof AssignmentTree assignment) {
                    String target = assignment.getVariable().toString();
                    hold(!arrayFields.contains(target), method.getName() + " assigns to no array field");
                }
            });
        }
    }

    private void staticFieldsAreConstants() {
        for (VariableTree field : fields) {
            if (isStatic(field)) {
                hold(field.getModifiers().getFlags().contains(Modifier.FINAL), field.getName() + " is final");
                String kind = field.getType().toString();
                hold(kind.equals("int") || kind.equals("long"), field.getName() + " is an int or a long");
                hold(field.getInitializer() != null, field.getName() + " has its value at once");
            }
        }
        for (Tree member : type.getMembers()) {
            hold(!(member instanceof BlockTree), "there is no initialiser block");
        }
    }

    private void noForbiddenStatements() {
        each(type, tree -> {
            boolean forbidden = tree instanceof ThrowTree || tree instanceof TryTree || tree instanceof SynchronizedTree
                || tree instanceof AssertTree || tree instanceof InstanceOfTree || tree instanceof LambdaExpressionTree
                || tree instanceof MemberReferenceTree;
            hold(!forbidden, tree + " is not allowed");
            if (tree instanceof TypeCastTree cast) {
                hold(isWhole(cast.getType()), cast + " casts to a whole number");
            }
        });
    }

    private void divisorsAreConstants() {
        each(type, tree -> {
            if (tree.getKind() == Tree.Kind.DIVIDE || tree.getKind() == Tree.Kind.REMAINDER) {
                hold(isConstant(((BinaryTree) tree).getRightOperand()), tree + " divides by a constant");
            }
            boolean hidden = tree.getKind() == Tree.Kind.DIVIDE_ASSIGNMENT
                || tree.getKind() == Tree.Kind.REMAINDER_ASSIGNMENT;
            hold(!hidden, tree + " divides in a plain expression");
        });
    }

    private void noRecursion() {
        for (String name : callsOf.keySet()) {
            Set<String> reached = new HashSet<>();
            List<String> open = new ArrayList<>(callsOf.get(name));
            while (!open.isEmpty()) {
                String next = open.remove(0);
                if (reached.add(next)) {
                    open.addAll(callsOf.getOrDefault(next, Set.of()));
                }
            }
            hold(!reached.contains(name), name + " does not come to call itself");
        }
    }

    /** Every loop is a for whose counter goes up by one to a bound and is changed nowhere else. */
    private void loopsEnd() {
        each(type, tree -> {
            boolean other = tree instanceof WhileLoopTree || tree instanceof DoWhileLoopTree
                || tree instanceof EnhancedForLoopTree;
            hold(!other, "each loop is a for with a counter");
            if (tree instanceof ForLoopTree loop) {
                hold(isCounted(loop), "this loop counts to a bound: for (" + loop.getInitializer() + " "
                    + loop.getCondition() + " " + loop.getUpdate() + ")");
            }
        });
    }

    private static boolean isCounted(ForLoopTree loop) {
        if (loop.getInitializer().size() != 1 || loop.getUpdate().size() != 1
            || !(loop.getInitializer().get(0) instanceof VariableTree counter)
            || !(loop.getCondition() instanceof BinaryTree condition)) {
            return false;
        }
        String name = counter.getName().toString();
        boolean bounded = condition.getKind() == Tree.Kind.LESS_THAN
            && condition.getLeftOperand().toString().equals(name);
        boolean up = loop.getUpdate().get(0).toString().equals(name + "++;")
            || loop.getUpdate().get(0).toString().equals(name + "++");
        Set<String> changed = changedIn(loop.getStatement());
        Set<String> asked = new HashSet<>();
        each(condition.getRightOperand(), tree -> {
            if (tree instanceof IdentifierTree || tree instanceof MethodInvocationTree) {
                asked.add(tree.toString());
            }
        });
        boolean steady = asked.stream().noneMatch(word -> changed.contains(word) || word.contains("("));
        return bounded && up && steady && !changed.contains(name);
    }

    private static Set<String> changedIn(StatementTree body) {
        Set<String> changed = new HashSet<>();
        each(body, tree -> {
            if (tree instanceof AssignmentTree assignment) {
                changed.add(assignment.getVariable().toString());
            } else if (tree instanceof CompoundAssignmentTree assignment) {
                changed.add(assignment.getVariable().toString());
            } else if (tree instanceof UnaryTree unary) {
                Tree.Kind kind = unary.getKind();
                boolean changes = kind == Tree.Kind.POSTFIX_INCREMENT || kind == Tree.Kind.POSTFIX_DECREMENT
                    || kind == Tree.Kind.PREFIX_INCREMENT || kind == Tree.Kind.PREFIX_DECREMENT;
                if (changes) {
                    changed.add(unary.getExpression().toString());
                }
            }
        });
        return changed;
    }

    private void callsStandAlone() {
        each(type, tree -> {
            if (tree instanceof MethodInvocationTree call) {
                for (ExpressionTree argument : call.getArguments()) {
                    each(argument, part -> hold(!(part instanceof MethodInvocationTree), call + " has no call inside"));
                }
            }
        });
    }

    private int depthOf(String name) {
        int deepest = 0;
        for (String called : callsOf.getOrDefault(name, Set.of())) {
            deepest = Math.max(deepest, called.equals("super") ? 0 : depthOf(called));
        }
        return deepest + 1;
    }

    private void callsAreNotDeep() {
        for (String name : callsOf.keySet()) {
            hold(depthOf(name) <= 6, name + " goes at most six calls deep");
        }
    }

    private void methodsAreShort() {
        for (MethodTree method : methods) {
            hold(method.getParameters().size() <= 7, method.getName() + " takes at most seven parameters");
            hold(method.toString().lines().count() <= 60, method.getName() + " has at most 60 lines");
        }
        long changing = fields.stream().filter(field -> !isStatic(field)).count();
        hold(changing <= 40, "there are at most 40 fields");
    }

    private static CompilationUnitTree parsed() throws IOException {
        JavaCompiler compiler = ToolProvider.getSystemJavaCompiler();
        StandardJavaFileManager files = compiler.getStandardFileManager(null, null, null);
        JavacTask task = (JavacTask) compiler.getTask(null, files, null, List.of("-proc:none"), null,
            files.getJavaFileObjects(SOURCE));
        return task.parse().iterator().next();
    }

    public static void main(String[] args) throws IOException {
        LanguageTest source = new LanguageTest(parsed());
        Sentence.holds("rule 1: one class", source::oneClass);
        Sentence.holds("rule 2: types", source::typesAreWholeNumbers);
        Sentence.holds("rule 3: no class of the Java library", source::noLibrary);
        Sentence.holds("rule 4: arrays", source::arraysAreMadeOnce);
        Sentence.holds("rule 5: static fields", source::staticFieldsAreConstants);
        Sentence.holds("rule 6: no throw and so on", source::noForbiddenStatements);
        Sentence.holds("rule 7: a divisor", source::divisorsAreConstants);
        Sentence.holds("rule 8: no recursion", source::noRecursion);
        Sentence.holds("rule 8: every loop has an end", source::loopsEnd);
        Sentence.holds("rule 10: no call inside the arguments of another", source::callsStandAlone);
        Sentence.holds("rule 10: calls go at most six deep", source::callsAreNotDeep);
        Sentence.holds("rule 10: short methods, few fields", source::methodsAreShort);
        Sentence.finish();
    }
}
