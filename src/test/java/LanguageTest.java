import com.sun.source.tree.*;
import com.sun.source.util.JavacTask;
import com.sun.source.util.TreePath;
import com.sun.source.util.TreePathScanner;
import com.sun.source.util.Trees;
import java.nio.file.Path;
import java.util.ArrayList;
import java.util.List;
import java.util.Set;
import java.util.TreeMap;
import java.util.TreeSet;
import javax.lang.model.element.Element;
import javax.lang.model.element.ElementKind;
import javax.lang.model.element.ExecutableElement;
import javax.lang.model.element.Modifier;
import javax.lang.model.element.TypeElement;
import javax.lang.model.type.ArrayType;
import javax.lang.model.type.TypeMirror;
import javax.tools.JavaCompiler;
import javax.tools.StandardJavaFileManager;
import javax.tools.ToolProvider;

/** The rules of LANGUAGE.md, held against the source as the compiler reads it. */
public final class LanguageTest {
    private static final String SOURCE = "src/main/java/MoonLine.java";
    // of what rule 4 allows, all that the class needs; a call more is a thing to think about
    private static final Set<String> LIBRARY = Set.of(
        "Math.min", "Integer.bitCount", "Arrays.fill", "System.arraycopy", "Object.<init>");
    private static final Set<String> CONSTANTS = Set.of("int", "long", "boolean", "char", "java.lang.String",
        "int[]", "long[]", "char[]", "byte[]");
    private static final int CLASSES = 12, FIELDS = 20, PARAMETERS = 7, LINES = 60, DEEP = 8;
    private static final Due due = new Due();

    public static void main(String[] args) throws Exception {
        JavaCompiler compiler = ToolProvider.getSystemJavaCompiler();
        try (StandardJavaFileManager files = compiler.getStandardFileManager(null, null, null)) {
            Path source = Path.of(args.length > 0 ? args[0] : SOURCE);
            JavacTask task = (JavacTask) compiler.getTask(null, files, null, List.of("-proc:none"), null,
                files.getJavaFileObjects(source));
            Iterable<? extends CompilationUnitTree> units = task.parse();
            task.analyze();
            for (CompilationUnitTree unit : units) {
                Rules rules = new Rules(Trees.instance(task), unit);
                rules.scan(unit, null);
                rules.calls();
            }
        }
        due.end("LanguageTest");
    }

    private static void yes(String what, boolean is) {
        due.is(what, is ? 1 : 0, 1);
    }

    private static final class Rules extends TreePathScanner<Void, Void> {
        private final Trees trees;
        private final CompilationUnitTree unit;
        private final TreeMap<String, Set<String>> calls = new TreeMap<>();
        private final TreeSet<String> open = new TreeSet<>();
        private int classes = 0;

        Rules(Trees trees, CompilationUnitTree unit) {
            this.trees = trees;
            this.unit = unit;
        }

        private String at(Tree tree) {
            long start = trees.getSourcePositions().getStartPosition(unit, tree);
            return "line " + unit.getLineMap().getLineNumber(start) + ": ";
        }

        private Void no(int rule, Tree tree) {
            yes(at(tree) + "rule " + rule + ": no " + tree.getKind(), false);
            return null;
        }

        private Element elementOf(Tree tree) {
            return trees.getElement(new TreePath(getCurrentPath(), tree));
        }

        private static boolean isOwn(Element e) {
            Element top = e;
            while (top.getEnclosingElement() != null && top.getEnclosingElement().getKind() != ElementKind.PACKAGE) {
                top = top.getEnclosingElement();
            }
            return top.getSimpleName().contentEquals("MoonLine");
        }

        private static String nameOf(Element e) {
            return e.getEnclosingElement().getSimpleName() + "." + e.getSimpleName();
        }

        // ---- rules 1 and 2: the file and its classes

        @Override
        public Void visitCompilationUnit(CompilationUnitTree tree, Void p) {
            yes("no package line", tree.getPackage() == null);
            yes("rule 1: one class outside", tree.getTypeDecls().size() == 1);
            return super.visitCompilationUnit(tree, p);
        }

        @Override
        public Void visitImport(ImportTree tree, Void p) {
            String name = tree.getQualifiedIdentifier().toString();
            yes(at(tree) + "rule 4: import " + name,
                Set.of("java.util.Arrays", "java.util.ArrayList", "java.util.List").contains(name));
            return null;
        }

        @Override
        public Void visitClass(ClassTree tree, Void p) {
            classes++;
            yes(at(tree) + "rule 11: at most twelve classes", classes <= CLASSES);
            Tree parent = getCurrentPath().getParentPath().getLeaf();
            boolean isOuter = parent instanceof CompilationUnitTree;
            yes(at(tree) + "rule 2: no local or anonymous class", isOuter || parent instanceof ClassTree);
            Set<Modifier> flags = tree.getModifiers().getFlags();
            yes(at(tree) + "rule 1: a static class inside", isOuter || flags.contains(Modifier.STATIC));
            yes(at(tree) + "rule 1: no public or protected class inside",
                isOuter || !flags.contains(Modifier.PUBLIC) && !flags.contains(Modifier.PROTECTED));
            int fields = 0;
            for (Tree member : tree.getMembers()) {
                yes(at(member) + "rule 5: no initialiser block", !(member instanceof BlockTree));
                if (member instanceof VariableTree) {
                    fields += ((VariableTree) member).getModifiers().getFlags().contains(Modifier.STATIC) ? 0 : 1;
                }
            }
            yes(at(tree) + "rule 11: at most twenty fields", fields <= FIELDS);
            return super.visitClass(tree, p);
        }

        @Override
        public Void visitLambdaExpression(LambdaExpressionTree tree, Void p) {
            return no(2, tree);
        }

        @Override
        public Void visitMemberReference(MemberReferenceTree tree, Void p) {
            return no(2, tree);
        }

        // ---- rules 3 and 5: types and static fields

        @Override
        public Void visitVariable(VariableTree tree, Void p) {
            Element e = trees.getElement(getCurrentPath());
            TypeMirror type = e.asType();
            yes(at(tree) + "rule 3: " + type, isAllowed(type, 0));
            if (e.getKind() == ElementKind.FIELD && e.getModifiers().contains(Modifier.STATIC)) {
                yes(at(tree) + "rule 5: a static field is final", e.getModifiers().contains(Modifier.FINAL));
                yes(at(tree) + "rule 5: a constant of " + type, CONSTANTS.contains(type.toString()));
            }
            return super.visitVariable(tree, p);
        }

        private static boolean isAllowed(TypeMirror type, int dimensions) {
            if (type instanceof ArrayType) {
                return isAllowed(((ArrayType) type).getComponentType(), dimensions + 1);
            }
            return type.getKind().isPrimitive() ? dimensions <= 2 : dimensions <= 1 && type.toString().startsWith("MoonLine.");
        }

        @Override
        public Void visitAssignment(AssignmentTree tree, Void p) {
            changesNoConstant(tree, tree.getVariable());
            return super.visitAssignment(tree, p);
        }

        @Override
        public Void visitCompoundAssignment(CompoundAssignmentTree tree, Void p) {
            changesNoConstant(tree, tree.getVariable());
            return super.visitCompoundAssignment(tree, p);
        }

        private void changesNoConstant(Tree tree, ExpressionTree variable) {
            if (variable instanceof ArrayAccessTree) {
                Element e = elementOf(((ArrayAccessTree) variable).getExpression());
                yes(at(tree) + "rule 5: no constant is changed", e == null || !e.getModifiers().contains(Modifier.STATIC));
            }
        }

        // ---- rules 6, 9 and 10: statements and signs

        @Override
        public Void visitThrow(ThrowTree tree, Void p) {
            return no(6, tree);
        }

        @Override
        public Void visitTry(TryTree tree, Void p) {
            return no(6, tree);
        }

        @Override
        public Void visitSynchronized(SynchronizedTree tree, Void p) {
            return no(6, tree);
        }

        @Override
        public Void visitAssert(AssertTree tree, Void p) {
            return no(6, tree);
        }

        @Override
        public Void visitWhileLoop(WhileLoopTree tree, Void p) {
            yes(at(tree) + "rule 9: a while has a counter", tree.getCondition().toString().contains("<"));
            return super.visitWhileLoop(tree, p);
        }

        @Override
        public Void visitForLoop(ForLoopTree tree, Void p) {
            yes(at(tree) + "rule 9: a for has a bound and a step",
                tree.getCondition() != null && tree.getCondition().toString().contains("<") && !tree.getUpdate().isEmpty());
            return super.visitForLoop(tree, p);
        }

        @Override
        public Void visitLiteral(LiteralTree tree, Void p) {
            if (tree.getValue() instanceof String) {
                yes(at(tree) + "rule 4: signs 1 to 127",
                    ((String) tree.getValue()).chars().allMatch(sign -> sign > 0 && sign < 128));
            }
            return null;
        }

        @Override
        public Void visitBinary(BinaryTree tree, Void p) {
            TypeMirror type = trees.getTypeMirror(getCurrentPath());
            yes(at(tree) + "rule 10: texts are not joined by +", type.getKind().isPrimitive());
            return super.visitBinary(tree, p);
        }

        // ---- rules 4, 7, 8, 11 and 12: methods and what they call

        @Override
        public Void visitMethod(MethodTree tree, Void p) {
            ExecutableElement e = (ExecutableElement) trees.getElement(getCurrentPath());
            calls.putIfAbsent(nameOf(e), new TreeSet<>());
            if (!e.getModifiers().contains(Modifier.PRIVATE)) {
                open.add(nameOf(e));
            }
            yes(at(tree) + "rule 6: throws nothing", tree.getThrows().isEmpty());
            yes(at(tree) + "rule 11: at most seven parameters", tree.getParameters().size() <= PARAMETERS);
            long end = trees.getSourcePositions().getEndPosition(unit, tree);
            long start = trees.getSourcePositions().getStartPosition(unit, tree);
            if (end > start) {
                long lines = unit.getLineMap().getLineNumber(end) - unit.getLineMap().getLineNumber(start) + 1;
                yes(at(tree) + "rule 11: a short method", lines <= LINES);
            }
            return super.visitMethod(tree, p);
        }

        @Override
        public Void visitMethodInvocation(MethodInvocationTree tree, Void p) {
            called(tree, elementOf(tree.getMethodSelect()));
            return super.visitMethodInvocation(tree, p);
        }

        @Override
        public Void visitNewClass(NewClassTree tree, Void p) {
            called(tree, trees.getElement(getCurrentPath()));
            onlyWhenMade(tree);
            return super.visitNewClass(tree, p);
        }

        @Override
        public Void visitNewArray(NewArrayTree tree, Void p) {
            onlyWhenMade(tree);
            for (ExpressionTree length : tree.getDimensions()) {
                boolean isConstant = !length.toString().matches(".*[a-z].*");
                yes(at(tree) + "rule 7: a length is a constant", isConstant);
            }
            return super.visitNewArray(tree, p);
        }

        private void onlyWhenMade(Tree tree) {
            Element e = enclosingMethod();
            yes(at(tree) + "rule 12: objects are made by constructors alone", e == null || e.getKind() == ElementKind.CONSTRUCTOR);
        }

        private Element enclosingMethod() {
            for (TreePath path = getCurrentPath(); path != null; path = path.getParentPath()) {
                if (path.getLeaf() instanceof MethodTree) {
                    return trees.getElement(path);
                }
            }
            return null;
        }

        private void called(Tree tree, Element callee) {
            if (callee == null) {
                yes(at(tree) + "is a call that is known", false);
            } else if (!isOwn(callee)) {
                yes(at(tree) + "rule 4: " + nameOf(callee), LIBRARY.contains(nameOf(callee)));
            } else if (enclosingMethod() != null) {
                calls.computeIfAbsent(nameOf(enclosingMethod()), key -> new TreeSet<>()).add(nameOf(callee));
            }
        }

        void calls() {
            int least = 50;
            yes("calls are seen", calls.size() > least);
            for (String name : calls.keySet()) {
                boolean recurs = reachedFrom(name).contains(name);
                yes("rule 8: " + name + " calls itself, so it is private", !recurs || !open.contains(name));
                List<String> chain = longestFrom(name, new ArrayList<>());
                yes("rule 11: at most eight deep: " + chain, chain.size() <= DEEP);
            }
        }

        private Set<String> reachedFrom(String name) {
            Set<String> reached = new TreeSet<>();
            List<String> next = new ArrayList<>(calls.getOrDefault(name, Set.of()));
            while (!next.isEmpty()) {
                String one = next.remove(next.size() - 1);
                if (reached.add(one)) {
                    next.addAll(calls.getOrDefault(one, Set.of()));
                }
            }
            return reached;
        }

        /** The longest chain of calls in which nobody stands twice. */
        private List<String> longestFrom(String name, List<String> ahead) {
            List<String> chain = new ArrayList<>(ahead);
            chain.add(name);
            List<String> longest = chain;
            for (String callee : calls.getOrDefault(name, Set.of())) {
                if (!chain.contains(callee)) {
                    List<String> longer = longestFrom(callee, chain);
                    longest = longer.size() > longest.size() ? longer : longest;
                }
            }
            return longest;
        }
    }
}
