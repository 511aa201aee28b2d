import com.sun.source.tree.AssignmentTree;
import com.sun.source.tree.BinaryTree;
import com.sun.source.tree.BlockTree;
import com.sun.source.tree.ClassTree;
import com.sun.source.tree.CompilationUnitTree;
import com.sun.source.tree.CompoundAssignmentTree;
import com.sun.source.tree.DoWhileLoopTree;
import com.sun.source.tree.ExpressionTree;
import com.sun.source.tree.ForLoopTree;
import com.sun.source.tree.IdentifierTree;
import com.sun.source.tree.MemberSelectTree;
import com.sun.source.tree.MethodInvocationTree;
import com.sun.source.tree.MethodTree;
import com.sun.source.tree.NewArrayTree;
import com.sun.source.tree.ParenthesizedTree;
import com.sun.source.tree.Tree;
import com.sun.source.tree.UnaryTree;
import com.sun.source.tree.VariableTree;
import com.sun.source.tree.WhileLoopTree;
import com.sun.source.util.JavacTask;
import com.sun.source.util.TreePath;
import com.sun.source.util.TreePathScanner;
import com.sun.source.util.TreeScanner;
import com.sun.source.util.Trees;
import java.io.IOException;
import java.nio.file.Path;
import java.util.EnumSet;
import java.util.HashMap;
import java.util.HashSet;
import java.util.Map;
import java.util.Set;
import java.util.TreeSet;
import javax.lang.model.element.Modifier;
import javax.lang.model.element.VariableElement;
import javax.lang.model.type.TypeKind;
import javax.lang.model.type.TypeMirror;
import javax.tools.JavaCompiler;
import javax.tools.StandardJavaFileManager;
import javax.tools.ToolProvider;

/** LANGUAGE.md, as far as it can be seen in the source. Rule 7 is left to the tests that call the class. */
public final class LanguageTest {
    private static final Path SOURCE = Path.of("src", "main", "java", "ChoiceShrink.java");

    /** What is ruled out wherever it stands, with the rule's number. A for-each loop has no counter. */
    private static final Map<Tree.Kind, Integer> RULED_OUT = Map.ofEntries(
        Map.entry(Tree.Kind.STRING_LITERAL, 2), Map.entry(Tree.Kind.FLOAT_LITERAL, 2),
        Map.entry(Tree.Kind.DOUBLE_LITERAL, 2), Map.entry(Tree.Kind.PARAMETERIZED_TYPE, 2),
        Map.entry(Tree.Kind.ANNOTATION, 3), Map.entry(Tree.Kind.NULL_LITERAL, 4), Map.entry(Tree.Kind.NEW_CLASS, 4),
        Map.entry(Tree.Kind.THROW, 6), Map.entry(Tree.Kind.TRY, 6), Map.entry(Tree.Kind.SYNCHRONIZED, 6),
        Map.entry(Tree.Kind.ASSERT, 6), Map.entry(Tree.Kind.INSTANCE_OF, 6),
        Map.entry(Tree.Kind.LAMBDA_EXPRESSION, 6), Map.entry(Tree.Kind.MEMBER_REFERENCE, 6),
        Map.entry(Tree.Kind.ENHANCED_FOR_LOOP, 8));
    private static final Set<TypeKind> NUMBERS = EnumSet.of(TypeKind.INT, TypeKind.LONG, TypeKind.SHORT, TypeKind.BYTE,
        TypeKind.CHAR, TypeKind.BOOLEAN);

    private static CompilationUnitTree unit;
    private static ClassTree theClass;
    private static Trees trees;

    private static final Set<String> methods = new HashSet<>();
    private static final Map<String, Set<String>> callsOf = new HashMap<>();

    public static void main(String[] args) throws IOException {
        read();
        oneClass();
        fieldsAreFewAndConstantsConstant();
        new Rules().scan(new TreePath(new TreePath(unit), theClass), null);
        callsEndAndAreNotDeep();
        Check.end("LanguageTest");
    }

    private static void read() throws IOException {
        JavaCompiler compiler = ToolProvider.getSystemJavaCompiler();
        try (StandardJavaFileManager files = compiler.getStandardFileManager(null, null, null)) {
            JavacTask task = (JavacTask) compiler.getTask(null, files, null, null, null,
                files.getJavaFileObjects(SOURCE));
            unit = task.parse().iterator().next();
            task.analyze();
            trees = Trees.instance(task);
        }
        theClass = (ClassTree) unit.getTypeDecls().get(0);
        for (Tree member : theClass.getMembers()) {
            if (member instanceof MethodTree) {
                methods.add(((MethodTree) member).getName().toString());
            }
        }
    }

    private static void oneClass() {
        holds(1, "one class", unit.getTypeDecls().size() == 1);
        holds(1, "no package line", unit.getPackage() == null);
        holds(3, "nothing is imported", unit.getImports().isEmpty());
        holds(1, "public and final", theClass.getModifiers().getFlags()
            .equals(EnumSet.of(Modifier.PUBLIC, Modifier.FINAL)));
        holds(1, "it extends and implements nothing",
            theClass.getExtendsClause() == null && theClass.getImplementsClause().isEmpty());
        Set<String> names = new HashSet<>();
        Set<String> privateNames = new HashSet<>();
        for (Tree member : theClass.getMembers()) {
            if (member instanceof MethodTree) {
                MethodTree method = (MethodTree) member;
                boolean hidden = method.getModifiers().getFlags().contains(Modifier.PRIVATE);
                (hidden ? privateNames : names).add(method.getName().toString());
            }
        }
        privateNames.retainAll(names);
        holds(1, "no private method bears the name of a public one: " + privateNames, privateNames.isEmpty());
    }

    private static void fieldsAreFewAndConstantsConstant() {
        int fields = 0;
        for (Tree member : theClass.getMembers()) {
            holds(5, "no initialiser block", !(member instanceof BlockTree));
            if (member instanceof VariableTree) {
                VariableTree field = (VariableTree) member;
                if (field.getModifiers().getFlags().contains(Modifier.STATIC)) {
                    isConstant(field);
                } else {
                    fields++;
                }
            }
        }
        holds(10, "at most some forty fields: " + fields, fields <= 40);
    }

    private static void isConstant(VariableTree field) {
        VariableElement element = (VariableElement) trees.getElement(TreePath.getPath(unit, field));
        TypeKind type = element.asType().getKind();
        holds(5, "a constant of int or long: " + field.getName(),
            element.getConstantValue() != null && (type == TypeKind.INT || type == TypeKind.LONG));
    }

    /** Walks over every line of the class. */
    private static final class Rules extends TreePathScanner<Void, Void> {
        private String method = "";

        @Override
        public Void scan(Tree tree, Void none) {
            if (tree != null) {
                String told = "no " + tree.getKind() + ", as at line " + lineOf(tree);
                holds(RULED_OUT.getOrDefault(tree.getKind(), 6), told, !RULED_OUT.containsKey(tree.getKind()));
                holds(1, told, !(tree instanceof ClassTree) || tree == theClass);
            }
            return super.scan(tree, none);
        }

        @Override
        public Void visitMethod(MethodTree tree, Void none) {
            method = tree.getName().toString();
            callsOf.computeIfAbsent(method, name -> new TreeSet<>());
            long lines = 1 + lineOfEnd(tree) - lineOf(tree);
            holds(10, method + " has " + lines + " lines", lines <= 60);
            holds(10, method + " has seven parameters at most", tree.getParameters().size() <= 7);
            holds(4, method + " answers no array", !(tree.getReturnType() != null
                && tree.getReturnType().getKind() == Tree.Kind.ARRAY_TYPE));
            holds(6, method + " is not synchronized",
                !tree.getModifiers().getFlags().contains(Modifier.SYNCHRONIZED));
            return super.visitMethod(tree, none);
        }

        @Override
        public Void visitVariable(VariableTree tree, Void none) {
            TypeMirror type = trees.getTypeMirror(getCurrentPath());
            boolean array = type.getKind() == TypeKind.ARRAY;
            String number = type.toString().replaceFirst("\\[\\]$", "");
            holds(2, tree.getName() + " is a number or an array of numbers: " + type,
                NUMBERS.stream().anyMatch(kind -> kind.name().equalsIgnoreCase(number)));
            Tree parent = getCurrentPath().getParentPath().getLeaf();
            boolean field = parent == theClass;
            boolean parameter = parent instanceof MethodTree;
            holds(4, "an array is a final field or a parameter: " + tree.getName(), !array || parameter
                || field && tree.getModifiers().getFlags().contains(Modifier.FINAL));
            return super.visitVariable(tree, none);
        }

        @Override
        public Void visitNewArray(NewArrayTree tree, Void none) {
            TreePath parent = getCurrentPath().getParentPath();
            boolean initialiser = parent.getLeaf() instanceof VariableTree
                && parent.getParentPath().getLeaf() == theClass;
            String told = "array at line " + lineOf(tree);
            holds(4, told + " is made in a field's initialiser", initialiser);
            holds(4, told + " has a length of its own", tree.getDimensions().size() == 1
                && tree.getInitializers() == null);
            for (ExpressionTree length : tree.getDimensions()) {
                holds(4, told + " has a length that is a literal or a constant", isLength(length));
            }
            return super.visitNewArray(tree, none);
        }

        private boolean isLength(ExpressionTree length) {
            if (length.getKind() == Tree.Kind.INT_LITERAL) {
                return !length.toString().equals("0");
            }
            Object value = null;
            if (length instanceof IdentifierTree) {
                value = ((VariableElement) trees.getElement(new TreePath(getCurrentPath(), length))).getConstantValue();
            }
            return value instanceof Integer && (Integer) value >= 1;
        }

        @Override
        public Void visitAssignment(AssignmentTree tree, Void none) {
            holds(4, "no array is assigned at line " + lineOf(tree), !isArray(tree.getVariable()));
            return super.visitAssignment(tree, none);
        }

        @Override
        public Void visitBinary(BinaryTree tree, Void none) {
            holds(4, "no array is compared at line " + lineOf(tree),
                !isArray(tree.getLeftOperand()) && !isArray(tree.getRightOperand()));
            return super.visitBinary(tree, none);
        }

        private boolean isArray(Tree tree) {
            return trees.getTypeMirror(new TreePath(getCurrentPath(), tree)).getKind() == TypeKind.ARRAY;
        }

        @Override
        public Void visitMemberSelect(MemberSelectTree tree, Void none) {
            holds(3, "no name behind a dot but this object's fields and length: " + tree,
                tree.getExpression().toString().equals("this") || tree.getIdentifier().contentEquals("length"));
            return super.visitMemberSelect(tree, none);
        }

        @Override
        public Void visitMethodInvocation(MethodInvocationTree tree, Void none) {
            String called = tree.getMethodSelect().toString();
            // A constructor that names no other one calls the one of Object, which javac writes there.
            if (!called.equals("super")) {
                holds(3, "a method of the class is called: " + called, methods.contains(called));
                callsOf.computeIfAbsent(method, name -> new TreeSet<>()).add(called);
            }
            for (ExpressionTree argument : tree.getArguments()) {
                argument.accept(new TreeScanner<Void, Void>() {
                    @Override
                    public Void visitMethodInvocation(MethodInvocationTree inner, Void nothing) {
                        holds(10, "no call inside the arguments of another: " + tree, false);
                        return null;
                    }
                }, null);
            }
            return super.visitMethodInvocation(tree, none);
        }

        @Override
        public Void visitForLoop(ForLoopTree tree, Void none) {
            endsByCounting(tree, tree.getCondition());
            return super.visitForLoop(tree, none);
        }

        @Override
        public Void visitWhileLoop(WhileLoopTree tree, Void none) {
            endsByCounting(tree, tree.getCondition());
            return super.visitWhileLoop(tree, none);
        }

        @Override
        public Void visitDoWhileLoop(DoWhileLoopTree tree, Void none) {
            endsByCounting(tree, tree.getCondition());
            return super.visitDoWhileLoop(tree, none);
        }
    }

    /** A part of the condition holds a counter against a bound, and the loop does nothing to it but count it up. */
    private static void endsByCounting(Tree loop, ExpressionTree condition) {
        Set<String> bounded = new TreeSet<>();
        collectBounded(condition, bounded);
        Map<String, Set<Tree.Kind>> changes = changesIn(loop);
        boolean counted = bounded.stream().anyMatch(name -> changes.containsKey(name)
            && changes.get(name).equals(EnumSet.of(Tree.Kind.POSTFIX_INCREMENT)));
        holds(8, "the loop at line " + lineOf(loop) + " counts against a bound", counted);
    }

    private static void collectBounded(ExpressionTree condition, Set<String> names) {
        if (condition instanceof ParenthesizedTree) {
            collectBounded(((ParenthesizedTree) condition).getExpression(), names);
        } else if (condition instanceof BinaryTree) {
            BinaryTree binary = (BinaryTree) condition;
            if (binary.getKind() == Tree.Kind.CONDITIONAL_AND) {
                collectBounded(binary.getLeftOperand(), names);
                collectBounded(binary.getRightOperand(), names);
            } else if (EnumSet.of(Tree.Kind.LESS_THAN, Tree.Kind.LESS_THAN_EQUAL).contains(binary.getKind())) {
                names.add(binary.getLeftOperand().toString());
            }
        }
    }

    /** How each variable is changed in the loop; where a for loop begins is no change. */
    private static Map<String, Set<Tree.Kind>> changesIn(Tree loop) {
        Map<String, Set<Tree.Kind>> changes = new HashMap<>();
        loop.accept(new TreeScanner<Void, Void>() {
            private void change(Tree variable, Tree tree) {
                changes.computeIfAbsent(variable.toString(), name -> EnumSet.noneOf(Tree.Kind.class))
                    .add(tree.getKind());
            }

            @Override
            public Void visitUnary(UnaryTree tree, Void none) {
                change(tree.getExpression(), tree);
                return super.visitUnary(tree, none);
            }

            @Override
            public Void visitAssignment(AssignmentTree tree, Void none) {
                change(tree.getVariable(), tree);
                return super.visitAssignment(tree, none);
            }

            @Override
            public Void visitCompoundAssignment(CompoundAssignmentTree tree, Void none) {
                change(tree.getVariable(), tree);
                return super.visitCompoundAssignment(tree, none);
            }
        }, null);
        return changes;
    }

    /** A call of itself, also through others, would go deeper than there are methods. */
    private static void callsEndAndAreNotDeep() {
        Set<String> reached = new TreeSet<>(callsOf.keySet());
        int depth = 0;
        while (!reached.isEmpty() && depth <= callsOf.size()) {
            Set<String> next = new TreeSet<>();
            reached.forEach(caller -> next.addAll(callsOf.getOrDefault(caller, Set.of())));
            reached = next;
            depth++;
        }
        holds(8, "no recursion", depth <= callsOf.size());
        holds(10, "calls at most six deep: " + depth, depth <= 6);
    }

    private static long lineOf(Tree tree) {
        return unit.getLineMap().getLineNumber(trees.getSourcePositions().getStartPosition(unit, tree));
    }

    private static long lineOfEnd(Tree tree) {
        return unit.getLineMap().getLineNumber(trees.getSourcePositions().getEndPosition(unit, tree));
    }

    private static void holds(int rule, String told, boolean kept) {
        Check.due("rule " + rule + " of LANGUAGE.md, " + told + ":", "kept", kept ? "kept" : "broken");
    }
}
