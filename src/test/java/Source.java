import com.sun.source.tree.BlockTree;
import com.sun.source.tree.ClassTree;
import com.sun.source.tree.CompilationUnitTree;
import com.sun.source.tree.ForLoopTree;
import com.sun.source.tree.IdentifierTree;
import com.sun.source.tree.MethodInvocationTree;
import com.sun.source.tree.MethodTree;
import com.sun.source.tree.NewArrayTree;
import com.sun.source.tree.NewClassTree;
import com.sun.source.tree.StatementTree;
import com.sun.source.tree.Tree;
import com.sun.source.tree.UnaryTree;
import com.sun.source.tree.VariableTree;
import com.sun.source.tree.WhileLoopTree;
import com.sun.source.util.JavacTask;
import com.sun.source.util.TreePath;
import com.sun.source.util.TreePathScanner;
import com.sun.source.util.TreeScanner;
import com.sun.source.util.Trees;
import java.io.IOException;
import java.nio.file.Path;
import java.util.EnumSet;
import java.util.LinkedHashSet;
import java.util.List;
import java.util.Map;
import java.util.Set;
import java.util.TreeMap;
import java.util.TreeSet;
import javax.lang.model.element.Element;
import javax.lang.model.element.Modifier;
import javax.lang.model.type.TypeMirror;
import javax.tools.JavaCompiler;
import javax.tools.StandardJavaFileManager;
import javax.tools.ToolProvider;

/** What the compiler's tree of the class tells: its kinds of code, its types, who calls whom, where something is made. */
final class Source {
    final Set<Tree.Kind> kinds = EnumSet.noneOf(Tree.Kind.class);
    /** All types of fields, variables, parameters and answers. */
    final Set<String> types = new TreeSet<>();
    final Set<String> statics = new TreeSet<>();
    final Set<String> fromLibrary = new TreeSet<>();
    /** Own methods, and the own methods and constructors that each of them calls. */
    final Map<String, Set<String>> calls = new TreeMap<>();
    final Map<String, List<String>> parameters = new TreeMap<>();
    final Set<String> makers = new TreeSet<>();
    final Set<String> endless = new TreeSet<>();
    final Set<String> blocks = new TreeSet<>();

    private final Trees trees;

    Source(Path place) throws IOException {
        JavaCompiler compiler = ToolProvider.getSystemJavaCompiler();
        try (StandardJavaFileManager files = compiler.getStandardFileManager(null, null, null)) {
            JavacTask task = (JavacTask) compiler.getTask(null, files, null, List.of("-proc:none"), null,
                files.getJavaFileObjects(place));
            Iterable<? extends CompilationUnitTree> units = task.parse();
            task.analyze();
            trees = Trees.instance(task);
            new Reader().scan(units, null);
        }
    }

    /** Whether it can be called again while it stands open. */
    boolean isRecursive(String method) {
        Set<String> reached = new LinkedHashSet<>(calls.getOrDefault(method, Set.of()));
        for (int had = -1; had != reached.size();) {
            had = reached.size();
            for (String one : List.copyOf(reached)) {
                reached.addAll(calls.getOrDefault(one, Set.of()));
            }
        }
        return reached.contains(method);
    }

    /** How many calls stand open at most, those that are recursion once each. */
    int deepest(String method) {
        return deepest(method, new LinkedHashSet<>());
    }

    private int deepest(String method, Set<String> open) {
        if (!open.add(method)) {
            return 0;
        }
        int most = 0;
        for (String next : calls.getOrDefault(method, Set.of())) {
            most = Math.max(most, deepest(next, open));
        }
        open.remove(method);
        return 1 + most;
    }

    private final class Reader extends TreePathScanner<Void, Void> {
        @Override
        public Void scan(Tree tree, Void none) {
            if (tree != null) {
                kinds.add(tree.getKind());
            }
            return super.scan(tree, none);
        }

        private TypeMirror typeOf(Tree tree) {
            return trees.getTypeMirror(new TreePath(getCurrentPath(), tree));
        }

        private Element elementOf(Tree tree) {
            return trees.getElement(new TreePath(getCurrentPath(), tree));
        }

        /** The method that stands around, or the constructor for what is made with a field. */
        private String around() {
            for (TreePath path = getCurrentPath(); path != null; path = path.getParentPath()) {
                if (path.getLeaf() instanceof MethodTree) {
                    return nameOf(trees.getElement(path));
                }
                if (path.getLeaf() instanceof ClassTree) {
                    return trees.getElement(path).getSimpleName() + ".<init>";
                }
            }
            return "";
        }

        private String nameOf(Element method) {
            return method.getEnclosingElement().getSimpleName() + "." + method.getSimpleName();
        }

        private boolean isOwn(Element method) {
            Element outermost = method;
            while (outermost.getEnclosingElement().getEnclosingElement() != null
                && outermost.getEnclosingElement().getKind() != javax.lang.model.element.ElementKind.PACKAGE) {
                outermost = outermost.getEnclosingElement();
            }
            return outermost.getSimpleName().contentEquals("PointLayers");
        }

        private void called(Element method) {
            if (isOwn(method)) {
                calls.computeIfAbsent(around(), m -> new TreeSet<>()).add(nameOf(method));
            } else if (!nameOf(method).equals("Object.<init>")) {
                fromLibrary.add(nameOf(method));
            }
        }

        @Override
        public Void visitClass(ClassTree tree, Void none) {
            for (Tree member : tree.getMembers()) {
                if (member instanceof BlockTree) {
                    blocks.add(tree.getSimpleName().toString());
                }
            }
            return super.visitClass(tree, none);
        }

        @Override
        public Void visitMethod(MethodTree tree, Void none) {
            String name = around();
            parameters.put(name, tree.getParameters().stream().map(p -> p.getName().toString()).toList());
            calls.computeIfAbsent(name, m -> new TreeSet<>());
            if (tree.getReturnType() != null) {
                types.add(typeOf(tree.getReturnType()).toString());
            }
            return super.visitMethod(tree, none);
        }

        @Override
        public Void visitVariable(VariableTree tree, Void none) {
            String type = typeOf(tree.getType()).toString();
            types.add(type);
            if (tree.getModifiers().getFlags().contains(Modifier.STATIC)) {
                statics.add((tree.getModifiers().getFlags().contains(Modifier.FINAL) ? "final " : "") + type);
            }
            return super.visitVariable(tree, none);
        }

        @Override
        public Void visitMethodInvocation(MethodInvocationTree tree, Void none) {
            called(elementOf(tree.getMethodSelect()));
            return super.visitMethodInvocation(tree, none);
        }

        @Override
        public Void visitNewClass(NewClassTree tree, Void none) {
            makers.add(around());
            called(trees.getElement(getCurrentPath()));
            return super.visitNewClass(tree, none);
        }

        @Override
        public Void visitNewArray(NewArrayTree tree, Void none) {
            makers.add(around());
            return super.visitNewArray(tree, none);
        }

        @Override
        public Void visitWhileLoop(WhileLoopTree tree, Void none) {
            if (!changesOneOf(tree.getStatement(), namesIn(tree.getCondition()))) {
                endless.add(around());
            }
            return super.visitWhileLoop(tree, none);
        }

        @Override
        public Void visitForLoop(ForLoopTree tree, Void none) {
            Set<String> counted = tree.getCondition() == null ? Set.of() : namesIn(tree.getCondition());
            if (tree.getUpdate().stream().noneMatch(step -> changesOneOf(step, counted))) {
                endless.add(around());
            }
            return super.visitForLoop(tree, none);
        }
    }

    private static Set<String> namesIn(Tree condition) {
        Set<String> names = new TreeSet<>();
        new TreeScanner<Void, Void>() {
            @Override
            public Void visitIdentifier(IdentifierTree tree, Void none) {
                names.add(tree.getName().toString());
                return null;
            }
        }.scan(condition, null);
        return names;
    }

    /** Whether a counter of these goes one up or down in each turn, not only under an if. */
    private static boolean changesOneOf(StatementTree body, Set<String> names) {
        List<? extends StatementTree> steps = body instanceof BlockTree block ? block.getStatements() : List.of(body);
        boolean[] does = {false};
        for (StatementTree step : steps) {
            if (step.getKind() == Tree.Kind.EXPRESSION_STATEMENT) {
                new TreeScanner<Void, Void>() {
                    @Override
                    public Void visitUnary(UnaryTree tree, Void none) {
                        does[0] |= names.contains(tree.getExpression().toString());
                        return super.visitUnary(tree, none);
                    }
                }.scan(step, null);
            }
        }
        return does[0];
    }
}
