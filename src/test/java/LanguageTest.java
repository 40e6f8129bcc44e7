import com.sun.source.tree.*;
import com.sun.source.util.JavacTask;
import com.sun.source.util.TreePath;
import com.sun.source.util.TreePathScanner;
import com.sun.source.util.Trees;
import java.io.File;
import java.io.IOException;
import java.nio.file.Files;
import java.nio.file.Path;
import java.nio.file.Paths;
import java.util.Arrays;
import java.util.HashMap;
import java.util.HashSet;
import java.util.List;
import java.util.Map;
import java.util.Set;
import java.util.TreeSet;
import javax.lang.model.element.Element;
import javax.lang.model.element.ElementKind;
import javax.lang.model.element.ExecutableElement;
import javax.lang.model.element.Modifier;
import javax.lang.model.element.TypeElement;
import javax.lang.model.element.VariableElement;
import javax.tools.JavaCompiler;
import javax.tools.StandardJavaFileManager;
import javax.tools.ToolProvider;

/** The rules of LANGUAGE.md, each held against the class as the compiler reads it. */
final class LanguageTest {
    private static final Path MAIN = Paths.get("src/main/java/TapLoom.java");

    private static final Set<String> NUMBERS = set("int", "long", "short", "byte", "char", "boolean", "double", "float");
    private static final Set<String> LIBRARY_TYPES = set("java.lang.String", "java.lang.StringBuilder",
            "java.lang.Integer", "java.util.ArrayList", "java.util.List");
    private static final Set<String> EXCEPTIONS = set("IllegalStateException", "IllegalArgumentException",
            "IndexOutOfBoundsException", "ArithmeticException", "UnsupportedOperationException",
            "NoSuchElementException", "RuntimeException");
    private static final Set<String> LIST_CALLS = set("add", "get", "set", "remove", "size", "isEmpty", "clear", "of");
    private static final Set<String> TEXT_CALLS = set("length", "charAt", "isEmpty", "equals", "indexOf", "substring",
            "toCharArray");
    private static final Set<String> BUILDER_CALLS = set("append", "charAt", "setCharAt", "setLength", "deleteCharAt",
            "reverse", "length", "toString");
    private static final Set<String> ARRAY_CALLS = set("copyOf", "copyOfRange", "fill");

    private static final Kit KIT = new Kit();

    private static Trees trees;
    private static CompilationUnitTree unit;
    private static List<String> lines;

    private static Set<String> set(String... words) {
        return new HashSet<>(Arrays.asList(words));
    }

    public static void main(String[] args) throws IOException {
        lines = Files.readAllLines(MAIN);
        read();
        KIT.test("LANGUAGE.md, head: one file, without a package line, one public class", LanguageTest::head);
        KIT.test("LANGUAGE.md rule 2: no lambda, no method reference, no local or inner class", LanguageTest::rule2);
        KIT.test("LANGUAGE.md rule 3: only its types, two dimensions of numbers at most", LanguageTest::rule3Types);
        KIT.test("LANGUAGE.md rule 3: no doubles or floats that could answer NaN", LanguageTest::rule3Doubles);
        KIT.test("LANGUAGE.md rules 4 and 13: only calls that stand there", LanguageTest::rule4Calls);
        KIT.test("LANGUAGE.md rule 4: only its imports, constants of signs 1 to 127", LanguageTest::rule4Signs);
        KIT.test("LANGUAGE.md rule 5: static fields are final constants, no static block", LanguageTest::rule5);
        KIT.test("LANGUAGE.md rule 6: throw new E() or throw new E(\"a written text\")", LanguageTest::rule6Throws);
        KIT.test("LANGUAGE.md rule 6: no throw in a constructor, no finally, no try with resources, no rethrow",
                LanguageTest::rule6Tries);
        KIT.test("LANGUAGE.md rule 6: nothing synchronized, no assert, no exception class", LanguageTest::rule6Rest);
        KIT.test("LANGUAGE.md rule 7: a divisor is a constant other than 0, or looked at before", LanguageTest::rule7);
        KIT.test("LANGUAGE.md rule 8: no recursion", LanguageTest::rule8);
        KIT.test("LANGUAGE.md rule 9: each loop has a bound on its own lines", LanguageTest::rule9);
        KIT.test("LANGUAGE.md rule 10: texts are not joined by +", LanguageTest::rule10);
        KIT.test("LANGUAGE.md rule 11: at most seven parameters, some sixty lines", LanguageTest::rule11Methods);
        KIT.test("LANGUAGE.md rule 11: calls go at most eight deep", LanguageTest::rule11Depth);
        KIT.test("LANGUAGE.md rule 12: no object is made in a loop", LanguageTest::rule12Loops);
        KIT.test("LANGUAGE.md rule 12: a constructor calls no method that could be overridden", LanguageTest::rule12Makes);
        KIT.end();
    }

    private static void read() throws IOException {
        JavaCompiler compiler = ToolProvider.getSystemJavaCompiler();
        StandardJavaFileManager files = compiler.getStandardFileManager(null, null, null);
        JavacTask task = (JavacTask) compiler.getTask(null, files, null, Arrays.asList("-proc:none"), null,
                files.getJavaFileObjects(new File(MAIN.toString())));
        unit = task.parse().iterator().next();
        task.analyze();
        trees = Trees.instance(task);
    }

    /** Walks through the whole class; what is not allowed is told with its line. */
    private abstract static class Walk extends TreePathScanner<Void, Void> {
        void walk() {
            scan(new TreePath(unit), null);
        }

        void refuse(Tree tree, String why) {
            long at = trees.getSourcePositions().getStartPosition(unit, tree);
            KIT.fail("line " + unit.getLineMap().getLineNumber(at) + ": " + why);
        }

        Element elementOf(Tree tree) {
            return trees.getElement(new TreePath(getCurrentPath(), tree));
        }

        boolean isInside(Tree.Kind... kinds) {
            for (TreePath path = getCurrentPath().getParentPath(); path != null; path = path.getParentPath()) {
                if (Arrays.asList(kinds).contains(path.getLeaf().getKind())) {
                    return true;
                }
            }
            return false;
        }

        MethodTree method() {
            for (TreePath path = getCurrentPath(); path != null; path = path.getParentPath()) {
                if (path.getLeaf() instanceof MethodTree) {
                    return (MethodTree) path.getLeaf();
                }
            }
            return null;
        }
    }

    private static boolean isOwn(Element element) {
        Element top = element;
        while (top.getEnclosingElement() != null && top.getEnclosingElement().getKind() != ElementKind.PACKAGE) {
            top = top.getEnclosingElement();
        }
        return top.getSimpleName().contentEquals("TapLoom");
    }

    private static void head() {
        KIT.is("package line", unit.getPackageName() == null, true);
        KIT.is("classes of the file", unit.getTypeDecls().size(), 1);
    }

    private static void rule2() {
        new Walk() {
            @Override
            public Void visitLambdaExpression(LambdaExpressionTree tree, Void v) {
                refuse(tree, "a lambda");
                return super.visitLambdaExpression(tree, v);
            }

            @Override
            public Void visitMemberReference(MemberReferenceTree tree, Void v) {
                refuse(tree, "a method reference");
                return super.visitMemberReference(tree, v);
            }

            @Override
            public Void visitClass(ClassTree tree, Void v) {
                Tree around = getCurrentPath().getParentPath().getLeaf();
                if (!(around instanceof CompilationUnitTree) && !(around instanceof ClassTree)) {
                    refuse(tree, "a local or anonymous class");
                }
                return super.visitClass(tree, v);
            }
        }.walk();
    }

    private static void rule3Types() {
        new Walk() {
            @Override
            public Void visitVariable(VariableTree tree, Void v) {
                check(tree, trees.getTypeMirror(new TreePath(getCurrentPath(), tree.getType())).toString());
                return super.visitVariable(tree, v);
            }

            @Override
            public Void visitMethod(MethodTree tree, Void v) {
                if (tree.getReturnType() != null) {
                    check(tree, trees.getTypeMirror(new TreePath(getCurrentPath(), tree.getReturnType())).toString());
                }
                return super.visitMethod(tree, v);
            }

            private void check(Tree tree, String type) {
                String base = type.replaceAll("(\\[\\])+$|<.*>", "");
                int dimensions = (type.length() - type.replace("[]", "").length()) / 2;
                boolean own = base.startsWith("TapLoom");
                boolean number = NUMBERS.contains(base);
                boolean fine = number && dimensions <= 2 || own && dimensions <= 1
                        || LIBRARY_TYPES.contains(base) && dimensions == 0 || base.equals("void");
                if (!fine) {
                    refuse(tree, "the type " + type);
                }
                if (type.contains("<") && !type.matches(".*<(TapLoom[.\\w]*|java.lang.Integer)>")) {
                    refuse(tree, "a list of " + type);
                }
            }
        }.walk();
    }

    private static void rule3Doubles() {
        for (int i = 0; i < lines.size(); i++) {
            if (lines.get(i).matches(".*\\b(double|float)\\b.*")) {
                KIT.fail("line " + (i + 1) + ": a double or float, of which no test looks at NaN");
            }
        }
    }

    private static void rule4Calls() {
        new Walk() {
            @Override
            public Void visitMethodInvocation(MethodInvocationTree tree, Void v) {
                Element called = elementOf(tree.getMethodSelect());
                if (!isOwn(called) && !isAllowed((ExecutableElement) called, tree)) {
                    refuse(tree, called.getEnclosingElement() + "." + called);
                }
                return super.visitMethodInvocation(tree, v);
            }

            private boolean isAllowed(ExecutableElement called, MethodInvocationTree tree) {
                String name = called.getSimpleName().toString();
                switch (((TypeElement) called.getEnclosingElement()).getQualifiedName().toString()) {
                    case "java.lang.Object": return name.equals("<init>") || name.equals("clone");
                    case "java.util.ArrayList": case "java.util.List": return isListCall(name, called);
                    case "java.lang.String": return TEXT_CALLS.contains(name);
                    case "java.lang.StringBuilder": return BUILDER_CALLS.contains(name);
                    case "java.util.Arrays": return ARRAY_CALLS.contains(name);
                    case "java.lang.System": return name.equals("arraycopy");
                    case "java.lang.Math": case "java.lang.Integer": case "java.lang.Long":
                        return isNumberCall(name, called);
                    default: return false;
                }
            }

            private boolean isListCall(String name, ExecutableElement called) {
                boolean byPlace = !name.equals("remove") || called.getParameters().get(0).asType().toString().equals("int");
                return LIST_CALLS.contains(name) && byPlace;
            }

            private boolean isNumberCall(String name, ExecutableElement called) {
                for (VariableElement parameter : called.getParameters()) {
                    String type = parameter.asType().toString();
                    if (!type.equals("int") && !type.equals("long")) {
                        return false;
                    }
                }
                return called.getModifiers().contains(Modifier.STATIC) && !name.endsWith("Exact");
            }
        }.walk();
    }

    private static void rule4Signs() {
        for (ImportTree tree : unit.getImports()) {
            String name = tree.getQualifiedIdentifier().toString();
            KIT.is("import " + name, !tree.isStatic() && name.matches(
                    "java\\.util\\.(ArrayList|Arrays|List|Iterator|NoSuchElementException)"), true);
        }
        for (int i = 0; i < lines.size(); i++) {
            KIT.is("line " + (i + 1) + " has plain signs", lines.get(i).matches("[ -~]*"), true);
        }
    }

    private static void rule5() {
        new Walk() {
            @Override
            public Void visitVariable(VariableTree tree, Void v) {
                boolean ofClass = getCurrentPath().getParentPath().getLeaf() instanceof ClassTree;
                if (ofClass && tree.getModifiers().getFlags().contains(Modifier.STATIC)) {
                    String type = tree.getType().toString();
                    boolean fine = set("int", "long", "boolean", "char", "String").contains(type);
                    boolean row = type.matches("(int|long|char|byte)\\[\\]")
                            && tree.getInitializer() instanceof NewArrayTree
                            && ((NewArrayTree) tree.getInitializer()).getInitializers() != null;
                    if (!tree.getModifiers().getFlags().contains(Modifier.FINAL) || !fine && !row) {
                        refuse(tree, "the static field " + tree.getName());
                    }
                }
                return super.visitVariable(tree, v);
            }

            @Override
            public Void visitBlock(BlockTree tree, Void v) {
                if (tree.isStatic()) {
                    refuse(tree, "a static block");
                }
                return super.visitBlock(tree, v);
            }
        }.walk();
    }

    private static void rule6Throws() {
        new Walk() {
            @Override
            public Void visitThrow(ThrowTree tree, Void v) {
                boolean fine = false;
                if (tree.getExpression() instanceof NewClassTree) {
                    NewClassTree made = (NewClassTree) tree.getExpression();
                    List<? extends ExpressionTree> texts = made.getArguments();
                    fine = EXCEPTIONS.contains(made.getIdentifier().toString()) && made.getClassBody() == null
                            && (texts.isEmpty() || texts.size() == 1
                            && texts.get(0).getKind() == Tree.Kind.STRING_LITERAL);
                }
                if (!fine) {
                    refuse(tree, "throws " + tree.getExpression());
                }
                return super.visitThrow(tree, v);
            }
        }.walk();
    }

    private static void rule6Tries() {
        new Walk() {
            @Override
            public Void visitThrow(ThrowTree tree, Void v) {
                if (method() == null || method().getReturnType() == null) {
                    refuse(tree, "a throw in a constructor");
                }
                if (isInside(Tree.Kind.TRY)) {
                    refuse(tree, "a throw in a try");
                }
                return super.visitThrow(tree, v);
            }

            @Override
            public Void visitTry(TryTree tree, Void v) {
                // The document asks for no answer that would need one.
                refuse(tree, "a try");
                return super.visitTry(tree, v);
            }
        }.walk();
    }

    private static void rule6Rest() {
        new Walk() {
            @Override
            public Void visitSynchronized(SynchronizedTree tree, Void v) {
                refuse(tree, "synchronized");
                return super.visitSynchronized(tree, v);
            }

            @Override
            public Void visitAssert(AssertTree tree, Void v) {
                refuse(tree, "assert");
                return super.visitAssert(tree, v);
            }

            @Override
            public Void visitMethod(MethodTree tree, Void v) {
                if (tree.getModifiers().getFlags().contains(Modifier.SYNCHRONIZED)) {
                    refuse(tree, "synchronized");
                }
                if (set("equals", "hashCode", "toString", "finalize").contains(tree.getName().toString())) {
                    refuse(tree, "a method " + tree.getName());
                }
                return super.visitMethod(tree, v);
            }

            @Override
            public Void visitClass(ClassTree tree, Void v) {
                if (tree.getExtendsClause() != null && !isOwn(elementOf(tree.getExtendsClause()))) {
                    refuse(tree, "a class below " + tree.getExtendsClause());
                }
                return super.visitClass(tree, v);
            }
        }.walk();
    }

    /** A name that divides must be compared with 0 in the same method, ahead of the division. */
    private static void rule7() {
        new Walk() {
            @Override
            public Void visitBinary(BinaryTree tree, Void v) {
                if (tree.getKind() == Tree.Kind.DIVIDE || tree.getKind() == Tree.Kind.REMAINDER) {
                    divides(tree, tree.getRightOperand());
                }
                return super.visitBinary(tree, v);
            }

            @Override
            public Void visitCompoundAssignment(CompoundAssignmentTree tree, Void v) {
                if (tree.getKind() == Tree.Kind.DIVIDE_ASSIGNMENT || tree.getKind() == Tree.Kind.REMAINDER_ASSIGNMENT) {
                    divides(tree, tree.getExpression());
                }
                return super.visitCompoundAssignment(tree, v);
            }

            @Override
            public Void visitMethodInvocation(MethodInvocationTree tree, Void v) {
                if (tree.getMethodSelect().toString().matches("Math\\.floor(Div|Mod)")) {
                    divides(tree, tree.getArguments().get(1));
                }
                return super.visitMethodInvocation(tree, v);
            }

            private void divides(Tree tree, ExpressionTree divisor) {
                Object constant = constantOf(divisor);
                boolean other = constant instanceof Number && ((Number) constant).longValue() != 0;
                long at = trees.getSourcePositions().getStartPosition(unit, tree);
                long from = trees.getSourcePositions().getStartPosition(unit, method());
                String ahead = textOf(from, at);
                if (!other && !ahead.matches("(?s).*\\b" + divisor + " (!=|>) 0\\b.*")) {
                    refuse(tree, "the divisor " + divisor);
                }
            }

            private Object constantOf(ExpressionTree tree) {
                if (tree instanceof LiteralTree) {
                    return ((LiteralTree) tree).getValue();
                }
                Element element = elementOf(tree);
                return element instanceof VariableElement ? ((VariableElement) element).getConstantValue() : null;
            }
        }.walk();
    }

    private static String textOf(long from, long to) {
        try {
            return unit.getSourceFile().getCharContent(true).toString().substring((int) from, (int) to);
        } catch (IOException e) {
            throw new IllegalStateException(e);
        }
    }

    /** Which of the class's own methods and constructors each of them calls. */
    private static Map<Element, Set<Element>> callGraph() {
        Map<Element, Set<Element>> calls = new HashMap<>();
        new Walk() {
            @Override
            public Void visitMethod(MethodTree tree, Void v) {
                calls.computeIfAbsent(trees.getElement(getCurrentPath()), key -> new HashSet<>());
                return super.visitMethod(tree, v);
            }

            @Override
            public Void visitMethodInvocation(MethodInvocationTree tree, Void v) {
                note(elementOf(tree.getMethodSelect()));
                return super.visitMethodInvocation(tree, v);
            }

            @Override
            public Void visitNewClass(NewClassTree tree, Void v) {
                note(trees.getElement(getCurrentPath()));
                return super.visitNewClass(tree, v);
            }

            private void note(Element called) {
                Element caller = trees.getElement(trees.getPath(unit, method()));
                if (isOwn(called)) {
                    calls.computeIfAbsent(caller, key -> new HashSet<>()).add(called);
                }
            }
        }.walk();
        return calls;
    }

    private static int depthOf(Element method, Map<Element, Set<Element>> calls, Set<Element> open) {
        if (!open.add(method)) {
            KIT.fail(method + " calls itself");
            return 0;
        }
        int deepest = 0;
        for (Element called : calls.getOrDefault(method, new HashSet<>())) {
            deepest = Math.max(deepest, depthOf(called, calls, open));
        }
        open.remove(method);
        return deepest + 1;
    }

    private static void rule8() {
        Map<Element, Set<Element>> calls = callGraph();
        KIT.is("methods are found", calls.size() > 19, true);
        for (Element method : calls.keySet()) {
            depthOf(method, calls, new HashSet<>());
        }
    }

    private static void rule11Depth() {
        Map<Element, Set<Element>> calls = callGraph();
        for (Element method : calls.keySet()) {
            int depth = depthOf(method, calls, new HashSet<>());
            KIT.is(method + " goes " + depth + " deep, at most eight", depth <= 8, true);
        }
    }

    private static void rule9() {
        new Walk() {
            @Override
            public Void visitForLoop(ForLoopTree tree, Void v) {
                check(tree, tree.getCondition());
                return super.visitForLoop(tree, v);
            }

            @Override
            public Void visitWhileLoop(WhileLoopTree tree, Void v) {
                check(tree, tree.getCondition());
                return super.visitWhileLoop(tree, v);
            }

            @Override
            public Void visitDoWhileLoop(DoWhileLoopTree tree, Void v) {
                check(tree, tree.getCondition());
                return super.visitDoWhileLoop(tree, v);
            }

            private void check(Tree tree, ExpressionTree condition) {
                boolean bounded = condition != null && condition.toString().matches(".* (<|<=|>|>=) .*")
                        && !condition.toString().contains("||");
                String body = tree.toString();
                if (!bounded || !body.contains("++") && !body.contains("--")) {
                    refuse(tree, "a loop without a counter and a bound");
                }
            }
        }.walk();
    }

    private static void rule10() {
        new Walk() {
            @Override
            public Void visitBinary(BinaryTree tree, Void v) {
                if (tree.getKind() == Tree.Kind.PLUS
                        && trees.getTypeMirror(getCurrentPath()).toString().equals("java.lang.String")) {
                    refuse(tree, "texts joined by +");
                }
                return super.visitBinary(tree, v);
            }
        }.walk();
    }

    private static void rule11Methods() {
        new Walk() {
            @Override
            public Void visitMethod(MethodTree tree, Void v) {
                LineMap map = unit.getLineMap();
                long from = map.getLineNumber(trees.getSourcePositions().getStartPosition(unit, tree));
                long to = map.getLineNumber(trees.getSourcePositions().getEndPosition(unit, tree));
                if (to - from >= 60) {
                    refuse(tree, tree.getName() + " has more than sixty lines");
                }
                if (tree.getParameters().size() > 7) {
                    refuse(tree, tree.getName() + " has more than seven parameters");
                }
                return super.visitMethod(tree, v);
            }
        }.walk();
    }

    private static void rule12Loops() {
        new Walk() {
            @Override
            public Void visitNewClass(NewClassTree tree, Void v) {
                refuseInLoop(tree);
                return super.visitNewClass(tree, v);
            }

            @Override
            public Void visitNewArray(NewArrayTree tree, Void v) {
                refuseInLoop(tree);
                return super.visitNewArray(tree, v);
            }

            private void refuseInLoop(Tree tree) {
                if (isInside(Tree.Kind.FOR_LOOP, Tree.Kind.WHILE_LOOP, Tree.Kind.DO_WHILE_LOOP,
                        Tree.Kind.ENHANCED_FOR_LOOP)) {
                    refuse(tree, "an object made in a loop");
                }
            }

            @Override
            public Void visitEnhancedForLoop(EnhancedForLoopTree tree, Void v) {
                refuse(tree, "a loop that makes an iterator");
                return super.visitEnhancedForLoop(tree, v);
            }
        }.walk();
    }

    private static void rule12Makes() {
        Set<String> called = new TreeSet<>();
        new Walk() {
            @Override
            public Void visitMethodInvocation(MethodInvocationTree tree, Void v) {
                Element element = elementOf(tree.getMethodSelect());
                boolean inConstructor = method() != null && method().getReturnType() == null;
                boolean fixed = element.getModifiers().contains(Modifier.STATIC)
                        || element.getModifiers().contains(Modifier.PRIVATE)
                        || element.getSimpleName().contentEquals("<init>");
                if (inConstructor && !fixed) {
                    called.add(element.toString());
                }
                return super.visitMethodInvocation(tree, v);
            }
        }.walk();
        KIT.is("called by constructors: " + called, called.isEmpty(), true);
    }
}
