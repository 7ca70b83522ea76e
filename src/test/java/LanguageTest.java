import com.sun.source.tree.BinaryTree;
import com.sun.source.tree.BlockTree;
import com.sun.source.tree.ClassTree;
import com.sun.source.tree.CompilationUnitTree;
import com.sun.source.tree.ExpressionStatementTree;
import com.sun.source.tree.ForLoopTree;
import com.sun.source.tree.IdentifierTree;
import com.sun.source.tree.IfTree;
import com.sun.source.tree.LiteralTree;
import com.sun.source.tree.MethodInvocationTree;
import com.sun.source.tree.MethodTree;
import com.sun.source.tree.NewArrayTree;
import com.sun.source.tree.NewClassTree;
import com.sun.source.tree.ParenthesizedTree;
import com.sun.source.tree.StatementTree;
import com.sun.source.tree.Tree;
import com.sun.source.tree.Tree.Kind;
import com.sun.source.tree.UnaryTree;
import com.sun.source.tree.VariableTree;
import com.sun.source.util.JavacTask;
import com.sun.source.util.TreePath;
import com.sun.source.util.TreePathScanner;
import com.sun.source.util.Trees;
import java.io.IOException;
import java.nio.file.Files;
import java.nio.file.Path;
import java.util.ArrayList;
import java.util.HashSet;
import java.util.LinkedHashMap;
import java.util.LinkedHashSet;
import java.util.List;
import java.util.Map;
import java.util.Set;
import javax.lang.model.element.Element;
import javax.lang.model.element.ElementKind;
import javax.lang.model.element.ExecutableElement;
import javax.lang.model.element.Modifier;
import javax.lang.model.element.VariableElement;
import javax.lang.model.type.ArrayType;
import javax.lang.model.type.TypeMirror;
import javax.tools.JavaCompiler;
import javax.tools.StandardJavaFileManager;
import javax.tools.ToolProvider;

/**
 * ../shared/LANGUAGE.md rule by rule, by the tree that the compiler makes of the program. Where the program needs less
 * than a rule leaves, it is held to that. Another file may be told: java LanguageTest FILE.
 */
public final class LanguageTest {
    private static final Set<String> OUTSIDE = Set.of(
        "java.lang.Object.<init>", "java.lang.Math.max", "java.lang.System.arraycopy", "java.util.Arrays.fill",
        "java.lang.Long.MIN_VALUE");
    private static final int MOST_PARAMETERS = 7, MOST_LINES = 60, MOST_CALLS_DEEP = 8, MOST_CLASSES = 12, MOST_FIELDS = 20;

    private final String code;
    private final CompilationUnitTree unit;
    private final Trees trees;
    private final List<TreePath> all = new ArrayList<>();
    /** Of each method and constructor of the file those of the file that it calls. */
    private final Map<ExecutableElement, Set<ExecutableElement>> calls = new LinkedHashMap<>();
    private final Map<ExecutableElement, MethodTree> methods = new LinkedHashMap<>();

    public static void main(String[] args) throws IOException {
        Path file = args.length > 0 ? Path.of(args[0]) : Path.of("src", "main", "java", "TallTales.java");
        LanguageTest test = new LanguageTest(file);
        test.rule1();
        test.rule2();
        test.rule3();
        test.rule4();
        test.rule5();
        test.rule6();
        test.rule7();
        test.rule8();
        test.rule9();
        test.rule11();
        test.rule12();
        Check.end("LanguageTest");
    }

    private LanguageTest(Path file) throws IOException {
        code = Files.readString(file);
        JavaCompiler compiler = ToolProvider.getSystemJavaCompiler();
        StandardJavaFileManager files = compiler.getStandardFileManager(null, null, null);
        JavacTask task = (JavacTask) compiler.getTask(
            null, files, null, List.of("-proc:none"), null, files.getJavaFileObjects(file.toFile()));
        unit = task.parse().iterator().next();
        task.analyze();
        trees = Trees.instance(task);
        new TreePathScanner<Void, Void>() {
            @Override
            public Void scan(Tree tree, Void none) {
                if (tree != null) all.add(new TreePath(getCurrentPath(), tree));
                return super.scan(tree, none);
            }
        }.scan(new TreePath(unit), null);
        for (TreePath path : of(Kind.METHOD)) {
            ExecutableElement method = (ExecutableElement) trees.getElement(path);
            methods.put(method, (MethodTree) path.getLeaf());
            calls.put(method, new LinkedHashSet<>());
        }
        for (TreePath path : of(Kind.METHOD_INVOCATION, Kind.NEW_CLASS)) {
            Element called = elementOf(path);
            MethodTree in = methodOf(path);
            if (in == null || !methods.containsKey(called)) continue;
            calls.get(trees.getElement(trees.getPath(unit, in))).add((ExecutableElement) called);
        }
    }

    // ---- what is read of the tree

    private List<TreePath> of(Kind... kinds) {
        Set<Kind> wanted = Set.of(kinds);
        List<TreePath> found = new ArrayList<>();
        for (TreePath path : all) if (wanted.contains(path.getLeaf().getKind())) found.add(path);
        return found;
    }

    private Element elementOf(TreePath path) {
        if (path.getLeaf() instanceof MethodInvocationTree call) return trees.getElement(new TreePath(path, call.getMethodSelect()));
        return trees.getElement(path);
    }

    /** The method in which something stands; null: in none. */
    private static MethodTree methodOf(TreePath path) {
        for (TreePath p = path; p != null; p = p.getParentPath()) if (p.getLeaf() instanceof MethodTree method) return method;
        return null;
    }

    private static boolean isInLoop(TreePath path) {
        Set<Kind> loops = Set.of(Kind.FOR_LOOP, Kind.ENHANCED_FOR_LOOP, Kind.WHILE_LOOP, Kind.DO_WHILE_LOOP);
        for (TreePath p = path; p != null; p = p.getParentPath()) if (loops.contains(p.getLeaf().getKind())) return true;
        return false;
    }

    private boolean isOfTheFile(Element element) {
        Element e = element;
        while (e != null && !(e.getKind() == ElementKind.CLASS && e.getSimpleName().contentEquals("TallTales"))) e = e.getEnclosingElement();
        return e != null;
    }

    private String where(TreePath path) {
        long at = trees.getSourcePositions().getStartPosition(unit, path.getLeaf());
        String row = path.getLeaf().toString().strip();
        return "line " + unit.getLineMap().getLineNumber(Math.max(at, 0)) + ", " + row.split("\n")[0];
    }

    private void none(String rule, Kind... kinds) {
        List<TreePath> found = of(kinds);
        Check.holds(rule + ": " + (found.isEmpty() ? "" : where(found.get(0))), found.isEmpty());
    }

    private long line(long position) {
        return unit.getLineMap().getLineNumber(position);
    }

    /** What a number that is written out is; 0 for any other one. */
    private long constant(TreePath at, Tree tree) {
        if (tree instanceof ParenthesizedTree inner) return constant(at, inner.getExpression());
        if (tree instanceof LiteralTree literal) return literal.getValue() instanceof Number number ? number.longValue() : 0;
        if (tree instanceof BinaryTree two && (two.getKind() == Kind.MULTIPLY || two.getKind() == Kind.PLUS)) {
            long left = constant(at, two.getLeftOperand());
            long right = constant(at, two.getRightOperand());
            if (left == 0 || right == 0) return 0;
            return two.getKind() == Kind.MULTIPLY ? left * right : left + right;
        }
        Element element = trees.getElement(trees.getPath(unit, tree));
        Object value = element instanceof VariableElement variable ? variable.getConstantValue() : null;
        return value instanceof Number number ? number.longValue() : 0;
    }

    // ---- the rules

    /** The face stands alone (FormTest has its members); no private method bears the name of a public one. */
    private void rule1() {
        Check.holds("1: no package", unit.getPackageName() == null);
        Check.due("1: one class in the file", unit.getTypeDecls().size(), 1);
        Set<String> names = new HashSet<>();
        for (ExecutableElement method : methods.keySet()) {
            if (method.getModifiers().contains(Modifier.PUBLIC)) names.add(method.getSimpleName().toString());
        }
        for (ExecutableElement method : methods.keySet()) {
            boolean isOfFace = method.getEnclosingElement().getSimpleName().contentEquals("TallTales");
            if (isOfFace && method.getModifiers().contains(Modifier.PUBLIC)) continue;
            Check.holds("1: private or inside: " + method, !isOfFace || method.getModifiers().contains(Modifier.PRIVATE));
            if (method.getKind() == ElementKind.METHOD) Check.holds("1: its own name: " + method, !names.contains(method.getSimpleName().toString()));
        }
    }

    /** Classes inside are static ones and private; no local or anonymous one, no lambda, no method reference. */
    private void rule2() {
        none("2", Kind.LAMBDA_EXPRESSION, Kind.MEMBER_REFERENCE, Kind.ANNOTATION, Kind.ENUM, Kind.RECORD, Kind.ANNOTATION_TYPE);
        for (TreePath path : of(Kind.CLASS)) {
            if (path.getParentPath().getLeaf() == unit) continue;
            ClassTree inside = (ClassTree) path.getLeaf();
            Set<Modifier> flags = inside.getModifiers().getFlags();
            Check.holds("2: right inside of the one class: " + inside.getSimpleName(), path.getParentPath().getParentPath().getLeaf() == unit);
            Check.holds("2: static and private: " + inside.getSimpleName(), flags.contains(Modifier.STATIC) && flags.contains(Modifier.PRIVATE));
        }
        for (TreePath path : of(Kind.NEW_CLASS)) Check.holds("2: " + where(path), ((NewClassTree) path.getLeaf()).getClassBody() == null);
    }

    /** Types: int, long, byte and short (to cut by), boolean, rows of int, classes of its own. */
    private void rule3() {
        for (TreePath path : of(Kind.VARIABLE, Kind.NEW_ARRAY, Kind.TYPE_CAST)) {
            Check.holds("3: " + where(path), isType(trees.getTypeMirror(path)));
        }
        for (ExecutableElement method : methods.keySet()) {
            String type = method.getReturnType().toString();
            Check.holds("3: what is answered by " + method, type.equals("void") || isType(method.getReturnType()));
        }
        none("3", Kind.DOUBLE_LITERAL, Kind.FLOAT_LITERAL, Kind.STRING_LITERAL, Kind.PARAMETERIZED_TYPE);
    }

    private boolean isType(TypeMirror type) {
        switch (type.getKind()) {
            case INT: case LONG: case BYTE: case SHORT: case BOOLEAN: return true;
            case ARRAY: return ((ArrayType) type).getComponentType().toString().equals("int");
            case DECLARED: return type.toString().startsWith("TallTales");
            default: return false;
        }
    }

    /** Of the library these alone; signs 1 to 127. Rule 13, too: nothing else is there to ask. */
    private void rule4() {
        for (TreePath path : of(Kind.METHOD_INVOCATION, Kind.NEW_CLASS, Kind.IDENTIFIER, Kind.MEMBER_SELECT)) {
            Element element = elementOf(path);
            if (element == null || isOfTheFile(element)) continue;
            ElementKind kind = element.getKind();
            if (kind != ElementKind.METHOD && kind != ElementKind.CONSTRUCTOR && kind != ElementKind.FIELD) continue;
            boolean isLength = kind == ElementKind.FIELD && element.getSimpleName().contentEquals("length");
            String name = element.getEnclosingElement() + "." + element.getSimpleName();
            Check.holds("4: " + name + " at " + where(path), isLength || OUTSIDE.contains(name));
        }
        Check.due("4: imports", unit.getImports().size(), 1);
        Check.holds("4: of Arrays", unit.getImports().get(0).getQualifiedIdentifier().toString().equals("java.util.Arrays"));
        for (int i = 0; i < code.length(); i++) {
            char sign = code.charAt(i);
            if (sign != '\n' && (sign < 32 || sign > 126)) Check.holds("4: the sign " + (int) sign + " is none to be used", false);
        }
    }

    /** Static fields are constants of int or long, written out; no static block. */
    private void rule5() {
        for (TreePath path : of(Kind.VARIABLE)) {
            Element field = trees.getElement(path);
            if (field.getKind() != ElementKind.FIELD || !field.getModifiers().contains(Modifier.STATIC)) continue;
            boolean isConstant = ((VariableElement) field).getConstantValue() != null;
            Check.holds("5: " + where(path), isConstant && field.getModifiers().contains(Modifier.FINAL));
        }
        for (TreePath path : of(Kind.BLOCK)) {
            boolean isOfClass = path.getParentPath().getLeaf() instanceof ClassTree;
            Check.holds("5: " + where(path), !isOfClass || !((BlockTree) path.getLeaf()).isStatic());
        }
    }

    /** No throw, try, synchronized, assert, patterns; casts to numbers alone; no equals, hashCode, toString. */
    private void rule6() {
        none("6", Kind.THROW, Kind.TRY, Kind.CATCH, Kind.SYNCHRONIZED, Kind.ASSERT, Kind.INSTANCE_OF, Kind.YIELD, Kind.SWITCH_EXPRESSION);
        for (TreePath path : of(Kind.TYPE_CAST)) Check.holds("6: " + where(path), trees.getTypeMirror(path).getKind().isPrimitive());
        for (Map.Entry<ExecutableElement, MethodTree> method : methods.entrySet()) {
            String name = method.getKey().getSimpleName().toString();
            Check.holds("6: " + name, !Set.of("equals", "hashCode", "toString", "finalize").contains(name));
            Check.holds("6: " + name + " throws", method.getValue().getThrows().isEmpty());
        }
    }

    /** What can be seen of it here: divisors and lengths of new rows are numbers written out, none of them 0; no null. */
    private void rule7() {
        for (TreePath path : of(Kind.DIVIDE, Kind.REMAINDER)) {
            Check.holds("7: " + where(path), constant(path, ((BinaryTree) path.getLeaf()).getRightOperand()) > 0);
        }
        none("7", Kind.DIVIDE_ASSIGNMENT, Kind.REMAINDER_ASSIGNMENT, Kind.NULL_LITERAL);
        for (TreePath path : of(Kind.NEW_ARRAY)) {
            List<? extends Tree> lengths = ((NewArrayTree) path.getLeaf()).getDimensions();
            Check.due("7: lengths at " + where(path), lengths.size(), 1);
            for (Tree length : lengths) Check.holds("7: " + where(path), constant(path, length) > 0);
        }
        // a field that is a reference is final and has a value from the constructor on: it is never null
        for (TreePath path : of(Kind.VARIABLE)) {
            Element field = trees.getElement(path);
            if (field.getKind() != ElementKind.FIELD || field.asType().getKind().isPrimitive()) continue;
            Check.holds("7: " + where(path), field.getModifiers().contains(Modifier.FINAL));
        }
    }

    /** What calls itself is a private static method that looks at its depth first and goes one deeper. */
    private void rule8() {
        for (ExecutableElement method : calls.keySet()) {
            if (!reaches(method, method, new HashSet<>())) continue;
            Check.holds("8: by itself alone: " + method, calls.get(method).contains(method));
            Check.holds("8: private static: " + method, method.getModifiers().containsAll(Set.of(Modifier.PRIVATE, Modifier.STATIC)));
            List<? extends StatementTree> body = methods.get(method).getBody().getStatements();
            int depth = depthLookedAt(method, body.get(0));
            Check.holds("8: looks at its depth first: " + method, depth >= 0);
            if (depth >= 0) goesOneDeeper(method, depth);
        }
        // of others: each call of one leads only on to ones that lead not back
        for (ExecutableElement method : calls.keySet()) {
            for (ExecutableElement called : calls.get(method)) {
                boolean leadsBack = called != method && reaches(called, method, new HashSet<>());
                Check.holds("8: " + method + " by " + called, !leadsBack);
            }
        }
    }

    private boolean reaches(ExecutableElement from, ExecutableElement to, Set<ExecutableElement> seen) {
        for (ExecutableElement called : calls.get(from)) {
            if (called == to || (seen.add(called) && reaches(called, to, seen))) return true;
        }
        return false;
    }

    /** The place of the parameter that if (PARAMETER >= ..) { ..; return; } looks at; -1: none. */
    private static int depthLookedAt(ExecutableElement method, StatementTree first) {
        if (!(first instanceof IfTree guard) || !(guard.getCondition() instanceof ParenthesizedTree inner)) return -1;
        if (!(inner.getExpression() instanceof BinaryTree test) || test.getKind() != Kind.GREATER_THAN_EQUAL) return -1;
        StatementTree then = guard.getThenStatement();
        if (then instanceof BlockTree block) then = block.getStatements().get(block.getStatements().size() - 1);
        if (then.getKind() != Kind.RETURN) return -1;
        for (int p = 0; p < method.getParameters().size(); p++) {
            if (method.getParameters().get(p).getSimpleName().contentEquals(test.getLeftOperand().toString())) return p;
        }
        return -1;
    }

    private void goesOneDeeper(ExecutableElement method, int depth) {
        String due = method.getParameters().get(depth).getSimpleName() + " + 1";
        for (TreePath path : of(Kind.METHOD_INVOCATION)) {
            if (elementOf(path) != method || methodOf(path) != methods.get(method)) continue;
            String deeper = ((MethodInvocationTree) path.getLeaf()).getArguments().get(depth).toString();
            Check.holds("8: one deeper at " + where(path), deeper.equals(due));
        }
    }

    /** Every loop counts: its counter goes one on a round against a bound, and nothing else changes it. */
    private void rule9() {
        none("9", Kind.WHILE_LOOP, Kind.DO_WHILE_LOOP);
        for (TreePath path : of(Kind.FOR_LOOP)) {
            ForLoopTree loop = (ForLoopTree) path.getLeaf();
            Check.holds("9: one counter at " + where(path), loop.getInitializer().size() == 1 && loop.getUpdate().size() == 1);
            String counter = ((VariableTree) loop.getInitializer().get(0)).getName().toString();
            ExpressionStatementTree update = (ExpressionStatementTree) loop.getUpdate().get(0);
            boolean goesUp = update.getExpression().toString().equals(counter + "++");
            Check.holds("9: by one at " + where(path), goesUp || update.getExpression().toString().equals(counter + "--"));
            Check.holds("9: a bound at " + where(path), isBound(loop.getCondition(), counter, goesUp));
            new TreePathScanner<Void, Void>() {
                @Override
                public Void scan(Tree tree, Void none) {
                    if (tree != null) Check.holds("9: " + counter + " changes in the body: " + tree, !changes(tree, counter));
                    return super.scan(tree, none);
                }
            }.scan(new TreePath(path, loop.getStatement()), null);
        }
    }

    private static boolean isBound(Tree condition, String counter, boolean goesUp) {
        if (!(condition instanceof BinaryTree two)) return false;
        if (two.getKind() == Kind.CONDITIONAL_AND) {
            return isBound(two.getLeftOperand(), counter, goesUp) || isBound(two.getRightOperand(), counter, goesUp);
        }
        return two.getLeftOperand().toString().equals(counter)
            && two.getKind() == (goesUp ? Kind.LESS_THAN : Kind.GREATER_THAN_EQUAL);
    }

    private static boolean changes(Tree tree, String name) {
        if (tree instanceof UnaryTree one) {
            boolean isChange = Set.of(Kind.POSTFIX_INCREMENT, Kind.POSTFIX_DECREMENT, Kind.PREFIX_INCREMENT, Kind.PREFIX_DECREMENT).contains(one.getKind());
            return isChange && one.getExpression().toString().equals(name);
        }
        String told = tree instanceof ExpressionStatementTree row ? row.getExpression().toString() : "";
        return told.matches(name + " \\S*=[^=].*");
    }

    /** Seven parameters, some sixty lines, calls eight deep, some twelve classes, some twenty fields in each. */
    private void rule11() {
        for (Map.Entry<ExecutableElement, MethodTree> entry : methods.entrySet()) {
            MethodTree method = entry.getValue();
            Check.holds("11: parameters of " + entry.getKey(), method.getParameters().size() <= MOST_PARAMETERS);
            long begin = line(trees.getSourcePositions().getStartPosition(unit, method));
            long end = line(trees.getSourcePositions().getEndPosition(unit, method));
            Check.holds("11: lines of " + entry.getKey(), end - begin < MOST_LINES);
            Check.holds("11: calls deep from " + entry.getKey(), deep(entry.getKey(), 0) <= MOST_CALLS_DEEP);
        }
        Check.holds("11: classes", of(Kind.CLASS).size() <= MOST_CLASSES);
        for (TreePath path : of(Kind.CLASS)) {
            int fields = 0;
            for (Tree member : ((ClassTree) path.getLeaf()).getMembers()) {
                if (member instanceof VariableTree field && !field.getModifiers().getFlags().contains(Modifier.STATIC)) fields++;
            }
            Check.holds("11: fields of " + ((ClassTree) path.getLeaf()).getSimpleName(), fields <= MOST_FIELDS);
        }
    }

    private int deep(ExecutableElement method, int above) {
        if (above > MOST_CALLS_DEEP) return above;
        int deepest = above + 1;
        for (ExecutableElement called : calls.get(method)) {
            if (called != method) deepest = Math.max(deepest, deep(called, above + 1));
        }
        return deepest;
    }

    /** Objects and rows are made as an object is made, none in a loop; no constructor hands out the object that it makes. */
    private void rule12() {
        for (TreePath path : of(Kind.NEW_CLASS, Kind.NEW_ARRAY)) {
            MethodTree in = methodOf(path);
            Check.holds("12: " + where(path), (in == null || in.getReturnType() == null) && !isInLoop(path));
        }
        for (TreePath path : of(Kind.IDENTIFIER)) {
            boolean isThis = ((IdentifierTree) path.getLeaf()).getName().contentEquals("this");
            MethodTree in = methodOf(path);
            if (!isThis || (in != null && in.getReturnType() != null)) continue;
            Check.holds("12: " + where(path.getParentPath()), path.getParentPath().getLeaf().getKind() == Kind.MEMBER_SELECT);
        }
        for (ExecutableElement method : calls.keySet()) {
            if (method.getKind() != ElementKind.CONSTRUCTOR) continue;
            boolean isFinal = method.getEnclosingElement().getModifiers().contains(Modifier.FINAL);
            Check.holds("12: no other class can override what " + method.getEnclosingElement() + " has", isFinal);
        }
    }
}
