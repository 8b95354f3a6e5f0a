import com.sun.source.tree.AnnotationTree;
import com.sun.source.tree.ClassTree;
import com.sun.source.tree.LambdaExpressionTree;
import com.sun.source.tree.MemberReferenceTree;
import com.sun.source.tree.MethodInvocationTree;
import com.sun.source.tree.MethodTree;
import com.sun.source.tree.NewClassTree;
import com.sun.source.tree.SwitchExpressionTree;
import com.sun.source.tree.ThrowTree;
import com.sun.source.tree.Tree;
import com.sun.source.tree.TryTree;
import com.sun.source.tree.TypeCastTree;
import com.sun.source.tree.VariableTree;
import com.sun.source.util.JavacTask;
import com.sun.source.util.TreePathScanner;
import com.sun.source.util.Trees;
import java.io.File;
import java.io.IOException;
import java.util.HashSet;
import java.util.List;
import java.util.Map;
import java.util.Set;
import java.util.TreeMap;
import java.util.TreeSet;
import javax.lang.model.element.Element;
import javax.lang.model.type.ArrayType;
import javax.lang.model.type.TypeKind;
import javax.lang.model.type.TypeMirror;
import javax.tools.JavaCompiler;
import javax.tools.StandardJavaFileManager;
import javax.tools.ToolProvider;

/**
 * The class as the compiler sees it: what it calls of the library, what its variables are, and how
 * deep its calls go (LANGUAGE.md, rules 2, 3, 4, 6, 8 and 11).
 */
public final class CallsTest {
    private static final File SOURCE = new File("src/main/java/HeldTongues.java");
    /** Counted with the call of the face and, at the end, that of the library. */
    private static final int DEEPEST = 8;
    private static final Set<String> LIBRARY = Set.of(
            "java.lang.String.length", "java.lang.String.charAt", "java.lang.Math.max", "java.lang.Math.min",
            "java.lang.Integer.bitCount");
    private static final Due DUE = new Due();

    /** Who calls whom, by class, name and parameters. */
    private static final Map<String, Set<String>> CALLS = new TreeMap<>();

    private static final class Look extends TreePathScanner<Void, Void> {
        private final Trees trees;
        private String caller = "the file";
        private int methods;

        Look(Trees trees) {
            this.trees = trees;
        }

        private static String nameOf(Element e) {
            return e.getEnclosingElement() + "." + e;
        }

        private static boolean isOwn(Element e) {
            return e.getEnclosingElement().toString().startsWith("HeldTongues");
        }

        private void calls(Element called) {
            CALLS.computeIfAbsent(caller, c -> new TreeSet<>()).add(nameOf(called));
        }

        private Void never(String what) {
            DUE.holds("no " + what + " in " + caller, false);
            return null;
        }

        @Override public Void visitClass(ClassTree made, Void v) {
            String outside = caller;
            caller = "the fields of " + made.getSimpleName();
            super.visitClass(made, v);
            caller = outside;
            return null;
        }

        @Override public Void visitMethod(MethodTree method, Void v) {
            String name = nameOf(trees.getElement(getCurrentPath()));
            CALLS.computeIfAbsent(name, c -> new TreeSet<>());
            methods++;
            String outside = caller;
            caller = name;
            super.visitMethod(method, v);
            caller = outside;
            return null;
        }

        @Override public Void visitMethodInvocation(MethodInvocationTree call, Void v) {
            Element called = trees.getElement(getCurrentPath());
            // The first line that the compiler itself writes into a constructor.
            if (!nameOf(called).equals("java.lang.Object.Object()")) {
                String name = called.getEnclosingElement() + "." + called.getSimpleName();
                DUE.holds(caller + " may call " + name, isOwn(called) || LIBRARY.contains(name));
                calls(called);
            }
            return super.visitMethodInvocation(call, v);
        }

        @Override public Void visitNewClass(NewClassTree made, Void v) {
            Element called = trees.getElement(getCurrentPath());
            DUE.holds(caller + " makes a class of its own", isOwn(called));
            DUE.holds(caller + " makes none without a name", made.getClassBody() == null);
            calls(called);
            return super.visitNewClass(made, v);
        }

        @Override public Void visitVariable(VariableTree variable, Void v) {
            TypeMirror type = trees.getElement(getCurrentPath()).asType();
            DUE.holds(caller + ": " + variable.getName() + " is " + type, mayBe(type));
            return super.visitVariable(variable, v);
        }

        private static boolean mayBe(TypeMirror type) {
            TypeMirror bare = type.getKind() == TypeKind.ARRAY ? ((ArrayType) type).getComponentType() : type;
            boolean text = type.toString().equals("java.lang.String");
            return text || bare.getKind().isPrimitive() || bare.toString().startsWith("HeldTongues");
        }

        @Override public Void visitTypeCast(TypeCastTree cast, Void v) {
            DUE.holds(caller + " casts numbers alone", cast.getType().getKind() == Tree.Kind.PRIMITIVE_TYPE);
            return super.visitTypeCast(cast, v);
        }

        @Override public Void visitLambdaExpression(LambdaExpressionTree tree, Void v) {
            return never("lambda");
        }

        @Override public Void visitMemberReference(MemberReferenceTree tree, Void v) {
            return never("method reference");
        }

        @Override public Void visitThrow(ThrowTree tree, Void v) {
            return never("throw");
        }

        @Override public Void visitTry(TryTree tree, Void v) {
            return never("try");
        }

        @Override public Void visitSwitchExpression(SwitchExpressionTree tree, Void v) {
            return never("switch with a value");
        }

        @Override public Void visitAnnotation(AnnotationTree tree, Void v) {
            return never("annotation");
        }
    }

    /** How many calls stand open at most, this one with them; a call of itself is a failure. */
    private static int depth(String method, Set<String> open) {
        if (!open.add(method)) {
            DUE.holds(method + " calls itself", false);
            return 0;
        }
        int deepest = 0;
        for (String called : CALLS.getOrDefault(method, Set.of())) {
            deepest = Math.max(deepest, depth(called, open));
        }
        open.remove(method);
        return deepest + 1;
    }

    public static void main(String[] args) throws IOException {
        JavaCompiler compiler = ToolProvider.getSystemJavaCompiler();
        try (StandardJavaFileManager files = compiler.getStandardFileManager(null, null, null)) {
            JavacTask task = (JavacTask) compiler.getTask(null, files, null, List.of("-proc:none"), null,
                    files.getJavaFileObjects(SOURCE));
            Look look = new Look(Trees.instance(task));
            var units = task.parse();
            task.analyze();
            units.forEach(unit -> look.scan(unit, null));
            DUE.holds("all methods were seen", look.methods > 100);
        }
        int deepest = 0;
        for (String method : CALLS.keySet()) {
            int depth = depth(method, new HashSet<>());
            DUE.holds(method + " goes " + depth + " deep", depth <= DEEPEST);
            deepest = Math.max(deepest, depth);
        }
        System.out.print("calls go " + deepest + " deep, ");
        DUE.end();
    }
}
