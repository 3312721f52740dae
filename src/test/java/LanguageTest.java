import com.sun.source.tree.CompilationUnitTree;
import com.sun.source.tree.MethodInvocationTree;
import com.sun.source.tree.MethodTree;
import com.sun.source.tree.NewClassTree;
import com.sun.source.tree.Tree;
import com.sun.source.util.JavacTask;
import com.sun.source.util.TreePathScanner;
import com.sun.source.util.Trees;
import java.io.File;
import java.util.ArrayList;
import java.util.EnumMap;
import java.util.LinkedHashMap;
import java.util.LinkedHashSet;
import java.util.List;
import java.util.Map;
import java.util.Set;
import javax.lang.model.element.Element;
import javax.lang.model.element.ExecutableElement;
import javax.lang.model.element.TypeElement;
import javax.lang.model.util.Elements;
import javax.tools.JavaCompiler;
import javax.tools.StandardJavaFileManager;
import javax.tools.ToolProvider;

/** Rules 4, 6, 8 and 11 of LANGUAGE.md as the compiler reads the source: who calls whom, how deep, and what of the library. */
public final class LanguageTest {
    private static final int DEEPEST = 8;

    /** Of rule 4's library, what the class uses: another one is added here only if the rule names it. */
    private static final Set<String> LIBRARY = Set.of("Math.min", "Math.max", "Math.abs", "Integer.bitCount",
        "String.length", "String.charAt", "System.arraycopy", "Object.<init>");

    private static final Set<Tree.Kind> FORBIDDEN = Set.of(Tree.Kind.THROW, Tree.Kind.TRY, Tree.Kind.CATCH,
        Tree.Kind.SYNCHRONIZED, Tree.Kind.ASSERT, Tree.Kind.LAMBDA_EXPRESSION, Tree.Kind.MEMBER_REFERENCE,
        Tree.Kind.DOUBLE_LITERAL, Tree.Kind.FLOAT_LITERAL, Tree.Kind.ANNOTATION);

    private final Map<ExecutableElement, Set<ExecutableElement>> calls = new LinkedHashMap<>();
    private final Map<ExecutableElement, List<ExecutableElement>> chains = new LinkedHashMap<>();
    private final Map<Tree.Kind, Integer> kinds = new EnumMap<>(Tree.Kind.class);
    private final List<ExecutableElement> underWay = new ArrayList<>();
    private final Trees trees;
    private final Elements elements;

    private LanguageTest(JavacTask task) {
        trees = Trees.instance(task);
        elements = task.getElements();
    }

    public static void main(String[] args) throws Exception {
        JavaCompiler compiler = ToolProvider.getSystemJavaCompiler();
        try (StandardJavaFileManager files = compiler.getStandardFileManager(null, null, null)) {
            JavacTask task = (JavacTask) compiler.getTask(null, files, null, List.of("-proc:none"), null,
                files.getJavaFileObjects(new File("src/main/java/TowerWarns.java")));
            Iterable<? extends CompilationUnitTree> units = task.parse();
            task.analyze();
            new LanguageTest(task).look(units);
        }
        Check.end("LanguageTest");
    }

    private void look(Iterable<? extends CompilationUnitTree> units) {
        for (CompilationUnitTree unit : units) {
            new Reader().scan(unit, null);
        }
        Check.holds("methods were found", calls.size() > 34);
        for (Tree.Kind kind : FORBIDDEN) {
            Check.due("rule 6: " + kind, kinds.getOrDefault(kind, 0), 0);
        }
        for (ExecutableElement method : List.copyOf(calls.keySet())) {
            for (ExecutableElement called : calls.get(method)) {
                Check.holds("rule 4: " + name(method) + " calls " + name(called),
                    calls.containsKey(called) || LIBRARY.contains(name(called)));
            }
            List<ExecutableElement> chain = longestFrom(method);
            Check.holds("rule 11: deeper than " + DEEPEST + ": " + chain.stream().map(this::name).toList(), chain.size() <= DEEPEST);
        }
    }

    private String name(ExecutableElement method) {
        return method.getEnclosingElement().getSimpleName() + "." + method.getSimpleName();
    }

    private List<ExecutableElement> longestFrom(ExecutableElement method) {
        if (underWay.contains(method)) {
            Check.holds("rule 8: " + name(method) + " comes back to itself", false);
            return List.of();
        }
        if (!chains.containsKey(method)) {
            underWay.add(method);
            List<ExecutableElement> longest = List.of();
            for (ExecutableElement next : calls.getOrDefault(method, Set.of())) {
                List<ExecutableElement> one = longestFrom(next);
                longest = one.size() > longest.size() ? one : longest;
            }
            underWay.remove(method);
            List<ExecutableElement> chain = new ArrayList<>(List.of(method));
            chain.addAll(longest);
            chains.put(method, chain);
        }
        return chains.get(method);
    }

    /** Notes each method's calls; one that a class below overrides may go there too, but for super's. */
    private final class Reader extends TreePathScanner<Void, Void> {
        private final List<TypeElement> classes = new ArrayList<>();
        private ExecutableElement method;

        @Override
        public Void scan(Tree tree, Void nothing) {
            if (tree != null) {
                kinds.merge(tree.getKind(), 1, Integer::sum);
            }
            return super.scan(tree, nothing);
        }

        @Override
        public Void visitCompilationUnit(CompilationUnitTree unit, Void nothing) {
            for (Tree type : unit.getTypeDecls()) {
                noteClasses((TypeElement) trees.getElement(trees.getPath(unit, type)));
            }
            return super.visitCompilationUnit(unit, nothing);
        }

        private void noteClasses(TypeElement type) {
            classes.add(type);
            type.getEnclosedElements().stream().filter(e -> e instanceof TypeElement).forEach(e -> noteClasses((TypeElement) e));
        }

        @Override
        public Void visitMethod(MethodTree tree, Void nothing) {
            ExecutableElement outer = method;
            method = (ExecutableElement) trees.getElement(getCurrentPath());
            calls.putIfAbsent(method, new LinkedHashSet<>());
            super.visitMethod(tree, nothing);
            method = outer;
            return null;
        }

        @Override
        public Void visitMethodInvocation(MethodInvocationTree tree, Void nothing) {
            note(trees.getElement(getCurrentPath()), tree.getMethodSelect().toString().startsWith("super."));
            return super.visitMethodInvocation(tree, nothing);
        }

        @Override
        public Void visitNewClass(NewClassTree tree, Void nothing) {
            note(trees.getElement(getCurrentPath()), true);
            return super.visitNewClass(tree, nothing);
        }

        private void note(Element element, boolean thisOneAlone) {
            if (method == null || !(element instanceof ExecutableElement)) {
                Check.holds("a call outside a method, or one that can't be told: " + element, false);
                return;
            }
            ExecutableElement called = (ExecutableElement) element;
            calls.get(method).add(called);
            for (TypeElement type : thisOneAlone ? List.<TypeElement>of() : classes) {
                for (Element member : type.getEnclosedElements()) {
                    if (member instanceof ExecutableElement && elements.overrides((ExecutableElement) member, called, type)) {
                        calls.get(method).add((ExecutableElement) member);
                    }
                }
            }
        }
    }
}
