import com.sun.source.tree.ArrayTypeTree;
import com.sun.source.tree.AssertTree;
import com.sun.source.tree.AssignmentTree;
import com.sun.source.tree.BlockTree;
import com.sun.source.tree.ClassTree;
import com.sun.source.tree.CompilationUnitTree;
import com.sun.source.tree.CompoundAssignmentTree;
import com.sun.source.tree.DoWhileLoopTree;
import com.sun.source.tree.EnhancedForLoopTree;
import com.sun.source.tree.ExpressionTree;
import com.sun.source.tree.ForLoopTree;
import com.sun.source.tree.IdentifierTree;
import com.sun.source.tree.InstanceOfTree;
import com.sun.source.tree.LambdaExpressionTree;
import com.sun.source.tree.LiteralTree;
import com.sun.source.tree.MemberReferenceTree;
import com.sun.source.tree.MemberSelectTree;
import com.sun.source.tree.MethodInvocationTree;
import com.sun.source.tree.MethodTree;
import com.sun.source.tree.NewArrayTree;
import com.sun.source.tree.NewClassTree;
import com.sun.source.tree.PrimitiveTypeTree;
import com.sun.source.tree.SynchronizedTree;
import com.sun.source.tree.ThrowTree;
import com.sun.source.tree.Tree;
import com.sun.source.tree.TryTree;
import com.sun.source.tree.TypeCastTree;
import com.sun.source.tree.UnaryTree;
import com.sun.source.tree.VariableTree;
import com.sun.source.tree.WhileLoopTree;
import com.sun.source.util.JavacTask;
import com.sun.source.util.TreeScanner;
import com.sun.source.util.Trees;
import java.io.IOException;
import java.nio.file.Path;
import java.util.HashMap;
import java.util.HashSet;
import java.util.Map;
import java.util.Set;
import java.util.TreeMap;
import java.util.TreeSet;
import javax.lang.model.element.Modifier;
import javax.lang.model.type.TypeKind;
import javax.tools.JavaCompiler;
import javax.tools.ToolProvider;

/** The rules of LANGUAGE.md, as far as the compiler's own reading of the class can tell. */
public final class LanguageTest {
    private static final Path SOURCE = Path.of("src/main/java/EligibleDeadline.java");
    private static final int MOST_PARAMETERS = 7;
    private static final int MOST_LINES = 60;
    private static final int MOST_DEPTH = 6;
    private static final int MOST_FIELDS = 40;

    private final CompilationUnitTree unit;
    private final Trees trees;
    private final ClassTree program;
    private final Map<String, MethodTree> methods = new TreeMap<>();
    private final Map<String, VariableTree> fields = new TreeMap<>();

    private LanguageTest(CompilationUnitTree unit, Trees trees) {
        this.unit = unit;
        this.trees = trees;
        this.program = (ClassTree) unit.getTypeDecls().get(0);
    }

    public static void main(String[] args) throws IOException {
        JavaCompiler compiler = ToolProvider.getSystemJavaCompiler();
        var sources = compiler.getStandardFileManager(null, null, null).getJavaFileObjects(SOURCE);
        JavacTask task = (JavacTask) compiler.getTask(null, null, null, null, null, sources);
        LanguageTest test = new LanguageTest(task.parse().iterator().next(), Trees.instance(task));
        Due.sentence("rules 1 and 3: one class, no package, nothing imported", test::oneClassAlone);
        Due.sentence("rule 1: members", test::members);
        Due.sentence("rule 2: types", test::types);
        Due.sentence("rule 3: no class of the library, no name from outside", test::namesAreItsOwn);
        Due.sentence("rule 4: arrays", test::arrays);
        Due.sentence("rule 5: static fields", test::staticFields);
        Due.sentence("rule 6: barred statements and expressions", test::barred);
        Due.sentence("rule 8: no recursion; rule 10: calls at most six deep", test::callDepth);
        Due.sentence("rule 8: the end of every loop can be seen", test::loopsEnd);
        Due.sentence("rule 10: parameters, nested calls, lines and fields", test::sizes);
        Due.end();
    }

    private void oneClassAlone() {
        Due.is("types in the file", unit.getTypeDecls().size(), 1);
        Due.is("imports", unit.getImports().size(), 0);
        Due.is("a package line", unit.getPackage() != null, false);
        Due.same("the modifiers of the class", program.getModifiers().getFlags(), Set.of(Modifier.PUBLIC, Modifier.FINAL));
        Due.is("a class above it", program.getExtendsClause() != null, false);
        Due.is("interfaces", program.getImplementsClause().size(), 0);
        Due.is("type parameters", program.getTypeParameters().size(), 0);
    }

    // FaceTest says which members may be public; here each other one must be private.
    private void members() {
        Set<String> open = new HashSet<>();
        Set<String> hidden = new HashSet<>();
        for (Tree member : program.getMembers()) {
            if (member instanceof MethodTree method) {
                String name = method.getName().toString();
                Due.is("method " + name + " is there twice", methods.put(name, method) != null, false);
                (isOpen(method.getModifiers().getFlags(), name) ? open : hidden).add(name);
            } else if (member instanceof VariableTree field) {
                fields.put(field.getName().toString(), field);
                isOpen(field.getModifiers().getFlags(), field.getName().toString());
            } else {
                Due.is("a member of the kind " + member.getKind(), true, false);
            }
        }
        for (String name : hidden) {
            Due.is("private " + name + " bears the name of a public method", open.contains(name), false);
        }
    }

    private static boolean isOpen(Set<Modifier> flags, String name) {
        boolean open = flags.contains(Modifier.PUBLIC);
        Due.is(name + " is neither public nor private", open || flags.contains(Modifier.PRIVATE), true);
        return open;
    }

    private void types() {
        new TreeScanner<Void, Void>() {
            @Override
            public Void visitVariable(VariableTree variable, Void nothing) {
                Due.is("the type of " + variable.getName(), isAllowed(variable.getType()), true);
                return super.visitVariable(variable, nothing);
            }

            @Override
            public Void visitPrimitiveType(PrimitiveTypeTree type, Void nothing) {
                TypeKind kind = type.getPrimitiveTypeKind();
                Due.is("the type " + kind, kind == TypeKind.FLOAT || kind == TypeKind.DOUBLE, false);
                return null;
            }

            @Override
            public Void visitLiteral(LiteralTree literal, Void nothing) {
                Tree.Kind kind = literal.getKind();
                boolean number = kind == Tree.Kind.INT_LITERAL || kind == Tree.Kind.LONG_LITERAL
                    || kind == Tree.Kind.CHAR_LITERAL || kind == Tree.Kind.BOOLEAN_LITERAL;
                Due.is("the literal " + literal, number, true);
                return null;
            }
        }.scan(program, null);
    }

    private static boolean isAllowed(Tree type) {
        if (type instanceof ArrayTypeTree array) {
            return array.getType() instanceof PrimitiveTypeTree;
        }
        return type instanceof PrimitiveTypeTree;
    }

    // A name that is no field, method, parameter or local variable would be a class from outside.
    private void namesAreItsOwn() {
        for (MethodTree method : methods.values()) {
            Set<String> known = new HashSet<>(fields.keySet());
            known.addAll(methods.keySet());
            known.add("this");
            new TreeScanner<Void, Void>() {
                @Override
                public Void visitVariable(VariableTree variable, Void nothing) {
                    known.add(variable.getName().toString());
                    return super.visitVariable(variable, nothing);
                }
            }.scan(method, null);
            new TreeScanner<Void, Void>() {
                @Override
                public Void visitIdentifier(IdentifierTree name, Void nothing) {
                    Due.is("the name " + name, known.contains(name.toString()), true);
                    return null;
                }

                @Override
                public Void visitMemberSelect(MemberSelectTree select, Void nothing) {
                    String whole = select.toString();
                    boolean own = whole.startsWith("this.") && fields.containsKey(whole.substring(5));
                    Due.is("the name " + whole, own, true);
                    return null;
                }
            }.scan(method.getBody(), null);
        }
    }

    private void arrays() {
        Set<Tree> makings = new HashSet<>();
        for (VariableTree field : fields.values()) {
            if (field.getType() instanceof ArrayTypeTree) {
                String name = field.getName().toString();
                Due.is(name + " is final", field.getModifiers().getFlags().contains(Modifier.FINAL), true);
                Due.is(name + " is made in its initialiser", field.getInitializer() instanceof NewArrayTree, true);
                makings.add(field.getInitializer());
                lengthIsConstant(name, (NewArrayTree) field.getInitializer());
            }
        }
        for (MethodTree method : methods.values()) {
            Due.is(method.getName() + " answers an array", method.getReturnType() instanceof ArrayTypeTree, false);
        }
        new TreeScanner<Void, Void>() {
            @Override
            public Void visitNewArray(NewArrayTree making, Void nothing) {
                Due.is("the array made in a field's initialiser: " + making, makings.contains(making), true);
                return null;
            }

            @Override
            public Void visitNewClass(NewClassTree making, Void nothing) {
                Due.is("an object is made: " + making, true, false);
                return null;
            }
        }.scan(program, null);
    }

    private void lengthIsConstant(String name, NewArrayTree making) {
        Due.is("the dimensions of " + name, making.getDimensions().size(), 1);
        ExpressionTree length = making.getDimensions().get(0);
        boolean literal = length instanceof LiteralTree;
        VariableTree constant = fields.get(length.toString());
        Due.is("the length of " + name + " is constant", literal || constant != null && isConstant(constant), true);
    }

    private static boolean isConstant(VariableTree field) {
        return field.getModifiers().getFlags().containsAll(Set.of(Modifier.STATIC, Modifier.FINAL));
    }

    private void staticFields() {
        for (VariableTree field : fields.values()) {
            if (field.getModifiers().getFlags().contains(Modifier.STATIC)) {
                String type = field.getType().toString();
                Due.is("the type of static " + field.getName(), type.equals("int") || type.equals("long"), true);
                boolean number = field.getInitializer() instanceof LiteralTree || field.getInitializer() instanceof UnaryTree;
                Due.is("static " + field.getName() + " is constant", number && isConstant(field), true);
            }
        }
        for (Tree member : program.getMembers()) {
            Due.is("an initialiser block", member instanceof BlockTree, false);
        }
    }

    private void barred() {
        new TreeScanner<Void, Void>() {
            @Override
            public Void scan(Tree tree, Void nothing) {
                boolean bad = tree instanceof ThrowTree || tree instanceof TryTree || tree instanceof SynchronizedTree
                    || tree instanceof AssertTree || tree instanceof InstanceOfTree || tree instanceof LambdaExpressionTree
                    || tree instanceof MemberReferenceTree
                    || tree instanceof TypeCastTree cast && !(cast.getType() instanceof PrimitiveTypeTree);
                Due.is("the barred " + tree, bad, false);
                return super.scan(tree, nothing);
            }
        }.scan(program, null);
        for (MethodTree method : methods.values()) {
            Set<Modifier> flags = method.getModifiers().getFlags();
            Due.is(method.getName() + " is synchronized", flags.contains(Modifier.SYNCHRONIZED), false);
            Due.is(method.getName() + " throws", method.getThrows().size(), 0);
        }
    }

    private void callDepth() {
        Map<String, Integer> depths = new HashMap<>();
        // A method whose callees are all known gets its depth; one in a circle never does.
        for (int round = 0; round < methods.size(); round++) {
            for (Map.Entry<String, MethodTree> method : methods.entrySet()) {
                Set<String> callees = callees(method.getValue());
                if (depths.keySet().containsAll(callees)) {
                    depths.put(method.getKey(), 1 + callees.stream().mapToInt(depths::get).max().orElse(0));
                }
            }
        }
        for (String name : methods.keySet()) {
            Due.is(name + " calls itself, or calls what is not of the class", !depths.containsKey(name), false);
            Due.is("the calls from " + name + " are too deep", depths.getOrDefault(name, 0) > MOST_DEPTH, false);
        }
    }

    private static Set<String> callees(MethodTree method) {
        Set<String> callees = new TreeSet<>();
        new TreeScanner<Void, Void>() {
            @Override
            public Void visitMethodInvocation(MethodInvocationTree call, Void nothing) {
                callees.add(call.getMethodSelect().toString());
                return super.visitMethodInvocation(call, nothing);
            }
        }.scan(method.getBody(), null);
        return callees;
    }

    // The class has no other loops than those that count up to a bound, so no other form is let through.
    private void loopsEnd() {
        new TreeScanner<Void, Void>() {
            @Override
            public Void visitForLoop(ForLoopTree loop, Void nothing) {
                String head = loop.getInitializer() + " " + loop.getCondition() + " " + loop.getUpdate();
                String counter = ((VariableTree) loop.getInitializer().get(0)).getName().toString();
                boolean counts = head.matches("int " + counter + " = 0 " + counter + " < \\w+ " + counter + "\\+\\+;");
                Due.is("the loop counts to a bound: " + head, counts, true);
                String bound = loop.getCondition().toString().replaceAll(".* ", "");
                Set<String> set = assigned(loop.getStatement());
                Due.is("the loop sets its counter: " + head, set.contains(counter), false);
                Due.is("the loop sets its bound: " + head, set.contains(bound) || isVariableField(bound), false);
                return super.visitForLoop(loop, nothing);
            }

            @Override
            public Void visitWhileLoop(WhileLoopTree loop, Void nothing) {
                Due.is("a while loop", true, false);
                return null;
            }

            @Override
            public Void visitDoWhileLoop(DoWhileLoopTree loop, Void nothing) {
                Due.is("a do loop", true, false);
                return null;
            }

            @Override
            public Void visitEnhancedForLoop(EnhancedForLoopTree loop, Void nothing) {
                Due.is("a loop over an array", true, false);
                return null;
            }
        }.scan(program, null);
    }

    // A field that is not final could be moved away by a call from the loop.
    private boolean isVariableField(String name) {
        return fields.containsKey(name) && !fields.get(name).getModifiers().getFlags().contains(Modifier.FINAL);
    }

    private static Set<String> assigned(Tree tree) {
        Set<String> names = new HashSet<>();
        new TreeScanner<Void, Void>() {
            @Override
            public Void visitAssignment(AssignmentTree assignment, Void nothing) {
                names.add(assignment.getVariable().toString());
                return super.visitAssignment(assignment, nothing);
            }

            @Override
            public Void visitCompoundAssignment(CompoundAssignmentTree assignment, Void nothing) {
                names.add(assignment.getVariable().toString());
                return super.visitCompoundAssignment(assignment, nothing);
            }

            @Override
            public Void visitUnary(UnaryTree unary, Void nothing) {
                names.add(unary.getExpression().toString());
                return super.visitUnary(unary, nothing);
            }
        }.scan(tree, null);
        return names;
    }

    private void sizes() {
        int variables = 0;
        for (VariableTree field : fields.values()) {
            variables += isConstant(field) ? 0 : 1;
        }
        Due.is("more than forty fields", variables > MOST_FIELDS, false);
        for (MethodTree method : methods.values()) {
            Due.is("too many parameters of " + method.getName(), method.getParameters().size() > MOST_PARAMETERS, false);
            Due.is("too many lines of " + method.getName(), lines(method) > MOST_LINES, false);
        }
        new TreeScanner<Void, Void>() {
            @Override
            public Void visitMethodInvocation(MethodInvocationTree call, Void nothing) {
                for (ExpressionTree argument : call.getArguments()) {
                    Due.is("a call inside the arguments of " + call, hasCall(argument), false);
                }
                return super.visitMethodInvocation(call, nothing);
            }
        }.scan(program, null);
    }

    private long lines(MethodTree method) {
        long from = trees.getSourcePositions().getStartPosition(unit, method);
        long to = trees.getSourcePositions().getEndPosition(unit, method);
        return unit.getLineMap().getLineNumber(to) - unit.getLineMap().getLineNumber(from) + 1;
    }

    private static boolean hasCall(Tree tree) {
        boolean[] found = {false};
        new TreeScanner<Void, Void>() {
            @Override
            public Void visitMethodInvocation(MethodInvocationTree call, Void nothing) {
                found[0] = true;
                return null;
            }
        }.scan(tree, null);
        return found[0];
    }
}
