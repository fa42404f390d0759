import com.sun.source.tree.AssertTree;
import com.sun.source.tree.BinaryTree;
import com.sun.source.tree.BlockTree;
import com.sun.source.tree.ClassTree;
import com.sun.source.tree.CompilationUnitTree;
import com.sun.source.tree.ForLoopTree;
import com.sun.source.tree.ImportTree;
import com.sun.source.tree.LambdaExpressionTree;
import com.sun.source.tree.MemberReferenceTree;
import com.sun.source.tree.MethodInvocationTree;
import com.sun.source.tree.MethodTree;
import com.sun.source.tree.NewArrayTree;
import com.sun.source.tree.NewClassTree;
import com.sun.source.tree.SynchronizedTree;
import com.sun.source.tree.ThrowTree;
import com.sun.source.tree.Tree;
import com.sun.source.tree.TryTree;
import com.sun.source.tree.VariableTree;
import com.sun.source.tree.WhileLoopTree;
import com.sun.source.util.JavacTask;
import com.sun.source.util.SourcePositions;
import com.sun.source.util.TreePathScanner;
import com.sun.source.util.Trees;
import java.nio.file.Path;
import java.util.HashMap;
import java.util.HashSet;
import java.util.LinkedHashSet;
import java.util.List;
import java.util.Map;
import java.util.Set;
import javax.lang.model.element.Element;
import javax.lang.model.element.ElementKind;
import javax.lang.model.element.Modifier;
import javax.lang.model.type.TypeMirror;
import javax.tools.JavaCompiler;
import javax.tools.StandardJavaFileManager;
import javax.tools.ToolProvider;

/**
 * The rules of LANGUAGE.md by their numbers, as far as the syntax tree of the class shows them. Of the types and the
 * library that rules 3 and 4 allow it knows those alone that the class uses; others may be added when they are needed.
 */
public final class LanguageTest {
    private static final Check CHECK = new Check();

    public static void main(String[] args) throws Exception {
        JavaCompiler compiler = ToolProvider.getSystemJavaCompiler();
        StandardJavaFileManager files = compiler.getStandardFileManager(null, null, null);
        JavacTask task = (JavacTask) compiler.getTask(null, files, null, List.of("-proc:none", "--release", "17"), null,
                files.getJavaFileObjects(Path.of("src/main/java/MicrostepChart.java")));
        CompilationUnitTree unit = task.parse().iterator().next();
        task.analyze();
        Rules rules = new Rules(Trees.instance(task), unit);
        rules.scan(unit, null);
        rules.dueInAll();
        CHECK.end("LanguageTest");
    }

    private static final class Rules extends TreePathScanner<Void, Void> {
        private static final Set<String> IMPORTS = Set.of("java.util.Arrays");
        private static final Set<String> LIBRARY = Set.of("java.util.Arrays.copyOf", "java.util.Arrays.copyOfRange",
                "java.util.Arrays.fill", "java.lang.System.arraycopy", "java.lang.Object.<init>");
        private static final Set<String> SCALARS = Set.of("int", "long", "short", "byte", "char", "boolean");
        private static final String CLASS = "MicrostepChart";

        private final Trees trees;
        private final CompilationUnitTree unit;
        private final Map<Element, Set<Element>> calls = new HashMap<>();
        private final Set<String> faceNames = new HashSet<>();
        private int classes = 0;

        Rules(Trees trees, CompilationUnitTree unit) {
            this.trees = trees;
            this.unit = unit;
            CHECK.due("no package line", unit.getPackageName() == null, true);
            CHECK.due("one class in the file", unit.getTypeDecls().size(), 1);
            for (Tree member : ((ClassTree) unit.getTypeDecls().get(0)).getMembers()) {
                if (member instanceof MethodTree method && method.getModifiers().getFlags().contains(Modifier.PUBLIC)) {
                    faceNames.add(method.getName().toString());
                }
            }
            faceNames.remove("<init>");
        }

        private void forbidden(int rule, Tree tree) {
            CHECK.due("rule " + rule + " forbids in line " + line(tree, false) + ": " + tree, true, false);
        }

        private long line(Tree tree, boolean last) {
            SourcePositions places = trees.getSourcePositions();
            long place = last ? places.getEndPosition(unit, tree) : places.getStartPosition(unit, tree);
            return unit.getLineMap().getLineNumber(place);
        }

        private Tree outer() {
            return getCurrentPath().getParentPath().getLeaf();
        }

        private boolean isOwn(Element element) {
            return element.toString().equals(CLASS) || element.getEnclosingElement() != null
                    && isOwn(element.getEnclosingElement());
        }

        private Element method() {
            for (var path = getCurrentPath(); path != null; path = path.getParentPath()) {
                if (path.getLeaf() instanceof MethodTree) {
                    return trees.getElement(path);
                }
            }
            return null;
        }

        @Override
        public Void visitImport(ImportTree tree, Void none) {
            CHECK.due("rule 4: " + tree, IMPORTS.contains(tree.getQualifiedIdentifier().toString()), true);
            return super.visitImport(tree, none);
        }

        @Override
        public Void visitClass(ClassTree tree, Void none) {
            classes++;
            Set<Modifier> flags = tree.getModifiers().getFlags();
            boolean inside = outer() instanceof ClassTree;
            CHECK.due("rule 2: no local class " + tree.getSimpleName(), inside || outer() == unit, true);
            if (inside) {
                CHECK.due("rule 2: static " + tree.getSimpleName(), flags.contains(Modifier.STATIC), true);
                CHECK.due("rule 1: hidden " + tree.getSimpleName(), flags.contains(Modifier.PUBLIC)
                        || flags.contains(Modifier.PROTECTED), false);
            }
            int fields = 0;
            for (Tree member : tree.getMembers()) {
                boolean field = member instanceof VariableTree;
                if (field && !((VariableTree) member).getModifiers().getFlags().contains(Modifier.STATIC)) {
                    fields++;
                }
            }
            CHECK.due("rule 11: fields of " + tree.getSimpleName() + " are " + fields, fields <= 20, true);
            return super.visitClass(tree, none);
        }

        @Override
        public Void visitMethod(MethodTree tree, Void none) {
            String name = tree.getName().toString();
            Set<Modifier> flags = tree.getModifiers().getFlags();
            CHECK.due("rule 1: " + name, flags.contains(Modifier.PRIVATE) && faceNames.contains(name), false);
            CHECK.due("rule 6: what " + name + " throws", tree.getThrows().size(), 0);
            CHECK.due("rule 11: parameters of " + name, tree.getParameters().size() <= 7, true);
            CHECK.due("rule 11: lines of " + name, line(tree, true) - line(tree, false) < 60, true);
            calls.put(trees.getElement(getCurrentPath()), new LinkedHashSet<>());
            return super.visitMethod(tree, none);
        }

        @Override
        public Void visitVariable(VariableTree tree, Void none) {
            Element element = trees.getElement(getCurrentPath());
            TypeMirror type = element.asType();
            String name = type.toString();
            boolean array = name.endsWith("[]") && SCALARS.contains(name.substring(0, name.length() - 2));
            CHECK.due("rule 3: type of " + tree, SCALARS.contains(name) || array || name.startsWith(CLASS), true);
            if (element.getKind() == ElementKind.FIELD && element.getModifiers().contains(Modifier.STATIC)) {
                CHECK.due("rule 5: final " + tree, element.getModifiers().contains(Modifier.FINAL), true);
                CHECK.due("rule 5: constant " + tree, SCALARS.contains(name), true);
            }
            return super.visitVariable(tree, none);
        }

        @Override
        public Void visitMethodInvocation(MethodInvocationTree tree, Void none) {
            noteCall(trees.getElement(getCurrentPath()));
            return super.visitMethodInvocation(tree, none);
        }

        @Override
        public Void visitNewClass(NewClassTree tree, Void none) {
            CHECK.due("rule 2: no anonymous class", tree.getClassBody() == null, true);
            noteCall(trees.getElement(getCurrentPath()));
            dueInConstructor(tree);
            return super.visitNewClass(tree, none);
        }

        @Override
        public Void visitNewArray(NewArrayTree tree, Void none) {
            dueInConstructor(tree);
            return super.visitNewArray(tree, none);
        }

        /** README.md says so; a field's initialiser is in no method, and is done by the constructor. */
        private void dueInConstructor(Tree tree) {
            Element method = method();
            CHECK.due("rule 12: made by a constructor: " + tree, method == null
                    || method.getKind() == ElementKind.CONSTRUCTOR, true);
        }

        private void noteCall(Element called) {
            if (!isOwn(called)) {
                String name = called.getEnclosingElement() + "." + called.getSimpleName();
                CHECK.due("rule 4: " + name, LIBRARY.contains(name), true);
            } else if (method() != null) {
                calls.get(method()).add(called);
            }
        }

        @Override
        public Void visitBlock(BlockTree tree, Void none) {
            CHECK.due("rule 5: no initialiser block", outer() instanceof ClassTree, false);
            return super.visitBlock(tree, none);
        }

        @Override
        public Void visitForLoop(ForLoopTree tree, Void none) {
            CHECK.due("rule 9: a bound in line " + line(tree, false), tree.getCondition() != null, true);
            return super.visitForLoop(tree, none);
        }

        @Override
        public Void visitWhileLoop(WhileLoopTree tree, Void none) {
            CHECK.due("rule 9: a bound in line " + line(tree, false), tree.getCondition().toString().equals("(true)"),
                    false);
            return super.visitWhileLoop(tree, none);
        }

        @Override
        public Void visitBinary(BinaryTree tree, Void none) {
            TypeMirror type = trees.getTypeMirror(getCurrentPath());
            CHECK.due("rule 10: no text joined by +: " + tree, type.toString().contains("String"), false);
            return super.visitBinary(tree, none);
        }

        @Override
        public Void visitLambdaExpression(LambdaExpressionTree tree, Void none) {
            forbidden(2, tree);
            return null;
        }

        @Override
        public Void visitMemberReference(MemberReferenceTree tree, Void none) {
            forbidden(2, tree);
            return null;
        }

        @Override
        public Void visitThrow(ThrowTree tree, Void none) {
            forbidden(6, tree);
            return null;
        }

        @Override
        public Void visitTry(TryTree tree, Void none) {
            forbidden(6, tree);
            return null;
        }

        @Override
        public Void visitSynchronized(SynchronizedTree tree, Void none) {
            forbidden(6, tree);
            return null;
        }

        @Override
        public Void visitAssert(AssertTree tree, Void none) {
            forbidden(6, tree);
            return null;
        }

        void dueInAll() {
            CHECK.due("rule 11: classes, " + classes, classes <= 12, true);
            CHECK.due("methods were found", calls.size() > faceNames.size(), true);
            for (Element method : calls.keySet()) {
                CHECK.due("rule 11: calls below " + method, depth(method, 0) <= 8, true);
            }
        }

        /** How many calls stand open at once, this one counted; recursion would go beyond any bound. */
        private int depth(Element method, int above) {
            int deepest = 0;
            if (above <= 8) {
                for (Element called : calls.getOrDefault(method, Set.of())) {
                    deepest = Math.max(deepest, depth(called, above + 1));
                }
            }
            return deepest + 1;
        }
    }
}
