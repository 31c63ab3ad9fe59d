import com.sun.source.tree.AssertTree;
import com.sun.source.tree.BlockTree;
import com.sun.source.tree.ClassTree;
import com.sun.source.tree.CompilationUnitTree;
import com.sun.source.tree.ImportTree;
import com.sun.source.tree.LambdaExpressionTree;
import com.sun.source.tree.LineMap;
import com.sun.source.tree.MemberReferenceTree;
import com.sun.source.tree.MethodInvocationTree;
import com.sun.source.tree.MethodTree;
import com.sun.source.tree.NewClassTree;
import com.sun.source.tree.SynchronizedTree;
import com.sun.source.tree.Tree;
import com.sun.source.tree.TryTree;
import com.sun.source.tree.VariableTree;
import com.sun.source.util.JavacTask;
import com.sun.source.util.TreePath;
import com.sun.source.util.TreePathScanner;
import com.sun.source.util.Trees;
import java.io.IOException;
import java.lang.reflect.Field;
import java.nio.file.Path;
import java.util.ArrayList;
import java.util.HashMap;
import java.util.HashSet;
import java.util.List;
import java.util.Map;
import java.util.Set;
import javax.lang.model.element.Element;
import javax.lang.model.element.ElementKind;
import javax.lang.model.element.Modifier;
import javax.tools.JavaCompiler;
import javax.tools.StandardJavaFileManager;
import javax.tools.ToolProvider;

/** The rules of ../shared/LANGUAGE.md that can be read off the compiler's tree of the class. */
public final class LanguageTest {
    private static final Due DUE = new Due("LanguageTest");
    private static final Path SOURCE = Path.of("src/main/java/DiodeLink.java");
    private static final Set<String> LIBRARY = Set.of("Math.max", "Math.min", "Math.floorMod", "System.arraycopy");
    private static final Set<String> EXCEPTIONS =
        Set.of("IllegalStateException", "IllegalArgumentException", "IndexOutOfBoundsException");
    private static final Set<String> CONSTANTS = Set.of("int", "long", "boolean", "char", "java.lang.String");

    public static void main(String[] args) throws Exception {
        readSource();
        countGoesRound();
        DUE.end();
    }

    /** Rule 7: no call throws by itself in any state, so not in one that would take years of calls either. */
    private static void countGoesRound() throws Exception {
        DiodeLink x = new DiodeLink();
        x.commit(0);
        Field sent = DiodeLink.class.getDeclaredField("packetsSent");
        sent.setAccessible(true);
        sent.setInt(x, Integer.MAX_VALUE - 1);
        for (int slot : new int[] {30, 31, 0, 1}) {
            DUE.is("rule 7: send() behind " + sent.getInt(x) + " packets", x.send(), slot);
        }
    }

    private static void readSource() throws IOException {
        JavaCompiler compiler = ToolProvider.getSystemJavaCompiler();
        try (StandardJavaFileManager files = compiler.getStandardFileManager(null, null, null)) {
            JavacTask task = (JavacTask) compiler.getTask(null, files, null, List.of("--release", "17"), null,
                files.getJavaFileObjects(SOURCE));
            CompilationUnitTree unit = task.parse().iterator().next();
            task.analyze();
            Reader reader = new Reader(Trees.instance(task), unit);
            reader.scan(unit, null);
            reader.lookAtAll();
        }
    }

    /** Looks at each part of the source as it goes by, and gathers what can be judged at the end alone. */
    private static final class Reader extends TreePathScanner<Void, Void> {
        private final Trees trees;
        private final CompilationUnitTree unit;
        private final Map<Element, Set<Element>> calls = new HashMap<>();
        private final Set<String> face = new HashSet<>();
        private final List<String> hidden = new ArrayList<>();
        private int classes = 0;
        private Element method = null;

        Reader(Trees trees, CompilationUnitTree unit) {
            this.trees = trees;
            this.unit = unit;
        }

        void lookAtAll() {
            DUE.is("rule 11: classes: " + classes + ", at most twelve", classes <= 12, true);
            for (String name : hidden) {
                DUE.is("rule 1: " + name + "() bears the name of a public one", face.contains(name), false);
            }
            for (Element called : calls.keySet()) {
                int depth = depth(called, new HashSet<>());
                DUE.is("rule 11: " + called + " goes " + depth + " calls deep, at most eight", depth <= 8, true);
            }
        }

        /** Methods that stand open at once from this one on; far beyond all when one calls itself. */
        private int depth(Element from, Set<Element> open) {
            if (!open.add(from)) {
                return 1000;
            }
            int most = 0;
            for (Element to : calls.getOrDefault(from, Set.of())) {
                most = Math.max(most, depth(to, open));
            }
            open.remove(from);
            return most + 1;
        }

        private Element here() {
            return trees.getElement(getCurrentPath());
        }

        private Element of(Tree tree) {
            return trees.getElement(new TreePath(getCurrentPath(), tree));
        }

        private boolean isOwn(Element type) {
            Element outermost = type;
            while (outermost.getEnclosingElement().getKind().isClass()) {
                outermost = outermost.getEnclosingElement();
            }
            return outermost.getSimpleName().contentEquals("DiodeLink");
        }

        private void refuse(String what) {
            DUE.is("the source has " + what, true, false);
        }

        @Override
        public Void visitClass(ClassTree node, Void nothing) {
            classes++;
            int fields = 0;
            for (Tree member : node.getMembers()) {
                boolean isField = member.getKind() == Tree.Kind.VARIABLE;
                boolean isStatic = isField && ((VariableTree) member).getModifiers().getFlags().contains(Modifier.STATIC);
                fields += isField && !isStatic ? 1 : 0;
                if (member instanceof BlockTree) {
                    refuse("an initialiser block in " + node.getSimpleName());
                }
            }
            DUE.is("rule 11: fields of " + node.getSimpleName() + ": " + fields + ", at most twenty", fields <= 20, true);
            boolean isInside = here().getEnclosingElement().getKind().isClass();
            Set<Modifier> flags = node.getModifiers().getFlags();
            DUE.is("rule 1: " + node.getSimpleName() + " is static if it stands inside",
                flags.contains(Modifier.STATIC), isInside);
            return super.visitClass(node, nothing);
        }

        @Override
        public Void visitVariable(VariableTree node, Void nothing) {
            Element variable = here();
            if (variable.getKind() == ElementKind.FIELD) {
                Set<Modifier> flags = variable.getModifiers();
                DUE.is("rule 1: field " + variable + " is private", flags.contains(Modifier.PRIVATE), true);
                if (flags.contains(Modifier.STATIC)) {
                    DUE.is("rule 5: static " + variable + " is final", flags.contains(Modifier.FINAL), true);
                    DUE.is("rule 5: static " + variable + " is a number or a text",
                        CONSTANTS.contains(variable.asType().toString()), true);
                }
            }
            return super.visitVariable(node, nothing);
        }

        @Override
        public Void visitMethod(MethodTree node, Void nothing) {
            Element outer = method;
            method = here();
            calls.putIfAbsent(method, new HashSet<>());
            String name = node.getName().toString();
            if (method.getModifiers().contains(Modifier.PUBLIC)) {
                face.add(name);
            } else if (!name.equals("<init>")) {
                hidden.add(name);
            }
            int parameters = node.getParameters().size();
            DUE.is("rule 11: parameters of " + method + ": " + parameters + ", at most seven", parameters <= 7, true);
            int lines = lines(node);
            DUE.is("rule 11: lines of " + method + ": " + lines + ", at most sixty", lines <= 60, true);
            super.visitMethod(node, nothing);
            method = outer;
            return null;
        }

        private int lines(Tree node) {
            LineMap map = unit.getLineMap();
            long start = trees.getSourcePositions().getStartPosition(unit, node);
            long end = trees.getSourcePositions().getEndPosition(unit, node);
            return end < 0 ? 0 : (int) (map.getLineNumber(end) - map.getLineNumber(start)) + 1;
        }

        @Override
        public Void visitMethodInvocation(MethodInvocationTree node, Void nothing) {
            Element called = here();
            Element owner = called.getEnclosingElement();
            if (isOwn(owner)) {
                calls.computeIfAbsent(method, m -> new HashSet<>()).add(called);
            } else if (called.getKind() != ElementKind.CONSTRUCTOR) {
                String name = owner.getSimpleName() + "." + called.getSimpleName();
                DUE.is("rule 4: " + name + " is of the library that may be used", LIBRARY.contains(name), true);
            }
            return super.visitMethodInvocation(node, nothing);
        }

        @Override
        public Void visitNewClass(NewClassTree node, Void nothing) {
            Element made = of(node.getIdentifier());
            boolean allowed = isOwn(made) || EXCEPTIONS.contains(made.getSimpleName().toString());
            DUE.is("rules 3 and 6: new " + made, allowed, true);
            DUE.is("rule 2: new " + made + " with a body of its own", node.getClassBody() != null, false);
            return super.visitNewClass(node, nothing);
        }

        @Override
        public Void visitImport(ImportTree node, Void nothing) {
            refuse("an import");
            return super.visitImport(node, nothing);
        }

        @Override
        public Void visitLambdaExpression(LambdaExpressionTree node, Void nothing) {
            refuse("a lambda");
            return super.visitLambdaExpression(node, nothing);
        }

        @Override
        public Void visitMemberReference(MemberReferenceTree node, Void nothing) {
            refuse("a method reference");
            return super.visitMemberReference(node, nothing);
        }

        @Override
        public Void visitTry(TryTree node, Void nothing) {
            refuse("a try, which no call here needs");
            return super.visitTry(node, nothing);
        }

        @Override
        public Void visitAssert(AssertTree node, Void nothing) {
            refuse("an assert");
            return super.visitAssert(node, nothing);
        }

        @Override
        public Void visitSynchronized(SynchronizedTree node, Void nothing) {
            refuse("a synchronized block");
            return super.visitSynchronized(node, nothing);
        }
    }
}
