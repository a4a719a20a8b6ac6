import com.sun.source.tree.ArrayTypeTree;
import com.sun.source.tree.BinaryTree;
import com.sun.source.tree.ClassTree;
import com.sun.source.tree.CompilationUnitTree;
import com.sun.source.tree.MethodInvocationTree;
import com.sun.source.tree.MethodTree;
import com.sun.source.tree.NewArrayTree;
import com.sun.source.tree.NewClassTree;
import com.sun.source.tree.Tree;
import com.sun.source.tree.TypeCastTree;
import com.sun.source.tree.VariableTree;
import com.sun.source.util.JavacTask;
import com.sun.source.util.TreePath;
import com.sun.source.util.TreePathScanner;
import com.sun.source.util.Trees;
import java.io.IOException;
import java.nio.file.Files;
import java.nio.file.Path;
import java.util.ArrayList;
import java.util.List;
import java.util.Map;
import java.util.Set;
import java.util.TreeMap;
import java.util.TreeSet;
import javax.lang.model.element.Element;
import javax.lang.model.element.ElementKind;
import javax.lang.model.element.Modifier;
import javax.lang.model.type.ArrayType;
import javax.lang.model.type.TypeKind;
import javax.lang.model.type.TypeMirror;
import javax.tools.JavaCompiler;
import javax.tools.StandardJavaFileManager;
import javax.tools.ToolProvider;

/** Those rules of LANGUAGE.md that the compiler's tree of the class shows: who calls whom, types, what is made where. */
public final class LanguageTreeTest {
    private static final int DEEPEST = 8;
    private static final Set<String> LIBRARY = Set.of("java.lang.Integer.bitCount(int)", "java.lang.Math.abs(int)",
            "java.lang.Math.max(int,int)", "java.lang.Math.min(int,int)", "java.lang.String.charAt(int)",
            "java.lang.String.length()", "java.util.Arrays.fill(int[],int)", "java.util.Arrays.fill(long[],long)",
            "java.lang.System.arraycopy(java.lang.Object,int,java.lang.Object,int,int)");
    private static final Set<Tree.Kind> LEFT_OUT = Set.of(Tree.Kind.THROW, Tree.Kind.TRY, Tree.Kind.SYNCHRONIZED,
            Tree.Kind.ASSERT, Tree.Kind.LAMBDA_EXPRESSION, Tree.Kind.MEMBER_REFERENCE, Tree.Kind.SWITCH_EXPRESSION,
            Tree.Kind.INSTANCE_OF, Tree.Kind.DIVIDE_ASSIGNMENT, Tree.Kind.REMAINDER_ASSIGNMENT);
    private static final Map<String, Set<String>> CALLS = new TreeMap<>();
    private static final Map<String, Element> OWN = new TreeMap<>();

    public static void main(String[] args) throws IOException {
        Path source = Path.of(args.length > 0 ? args[0] : "src/main/java/NineInMind.java");
        if (!Files.exists(source)) {
            Check.due(source + " is there", 1, 0);
        } else {
            read(source);
        }
        for (String method : OWN.keySet()) {
            List<String> calls = deepest(method, new ArrayList<>());
            Check.due("calls above eight, one in another: " + calls, 0, Math.max(0, calls.size() - DEEPEST));
            yes(method + " calls itself, so it is private",
                    !reaches(method, method, new TreeSet<>()) || OWN.get(method).getModifiers().contains(Modifier.PRIVATE));
        }
        Check.end("LanguageTreeTest");
    }

    private static void yes(String what, boolean holds) {
        Check.due(what, 1, holds ? 1 : 0);
    }

    private static void read(Path source) throws IOException {
        JavaCompiler compiler = ToolProvider.getSystemJavaCompiler();
        StandardJavaFileManager files = compiler.getStandardFileManager(null, null, null);
        JavacTask task = (JavacTask) compiler.getTask(null, files, null, List.of("-proc:none"), null,
                files.getJavaFileObjects(source));
        Iterable<? extends CompilationUnitTree> units = task.parse();
        task.analyze();
        for (CompilationUnitTree unit : units) {
            yes("no package line", unit.getPackageName() == null);
            Check.due("classes beside each other", 1, unit.getTypeDecls().size());
            new Rules(Trees.instance(task)).scan(unit, null);
        }
    }

    /** The longest way of calls from a method, none of them twice. */
    private static List<String> deepest(String method, List<String> open) {
        open.add(method);
        List<String> best = new ArrayList<>();
        for (String next : CALLS.getOrDefault(method, Set.of())) {
            if (!open.contains(next)) {
                List<String> way = deepest(next, open);
                best = way.size() > best.size() ? way : best;
            }
        }
        open.remove(open.size() - 1);
        List<String> all = new ArrayList<>(List.of(method));
        all.addAll(best);
        return all;
    }

    private static boolean reaches(String from, String to, Set<String> seen) {
        for (String next : CALLS.getOrDefault(from, Set.of())) {
            if (next.equals(to) || seen.add(next) && reaches(next, to, seen)) {
                return true;
            }
        }
        return false;
    }

    /** The text given with each of these scans is the method that it goes on in. */
    private static final class Rules extends TreePathScanner<Void, String> {
        private final Trees trees;

        Rules(Trees trees) {
            this.trees = trees;
        }

        @Override
        public Void scan(Tree tree, String method) {
            if (tree != null) {
                yes("no " + tree.getKind() + " in " + method, !LEFT_OUT.contains(tree.getKind()));
            }
            return super.scan(tree, method);
        }

        @Override
        public Void visitClass(ClassTree tree, String method) {
            Element element = trees.getElement(getCurrentPath());
            yes(element + " is a member", method == null);
            yes(element + " has a name", !tree.getSimpleName().isEmpty());
            yes(element + " is static", element.getEnclosingElement().getKind() == ElementKind.PACKAGE
                    || element.getModifiers().contains(Modifier.STATIC));
            return super.visitClass(tree, method);
        }

        @Override
        public Void visitMethod(MethodTree tree, String method) {
            Element element = trees.getElement(getCurrentPath());
            String name = name(element);
            OWN.put(name, element);
            return super.visitMethod(tree, name);
        }

        @Override
        public Void visitVariable(VariableTree tree, String method) {
            TypeMirror type = trees.getTypeMirror(getCurrentPath());
            yes(tree + " is of a type that may be used", isPlain(type));
            return super.visitVariable(tree, method);
        }

        @Override
        public Void visitArrayType(ArrayTypeTree tree, String method) {
            yes(tree + " has one dimension", tree.getType().getKind() != Tree.Kind.ARRAY_TYPE);
            return super.visitArrayType(tree, method);
        }

        @Override
        public Void visitNewClass(NewClassTree tree, String method) {
            Element made = trees.getElement(getCurrentPath());
            yes(tree + " is one of the classes inside", name(made).startsWith("NineInMind."));
            yes(tree + " is made in a constructor, not in " + method, isConstructor(method));
            yes(tree + " has no body", tree.getClassBody() == null);
            return super.visitNewClass(tree, method);
        }

        @Override
        public Void visitNewArray(NewArrayTree tree, String method) {
            yes(tree + " is made in a constructor, not in " + method, isConstructor(method));
            for (Tree length : tree.getDimensions()) {
                yes(tree + " has a constant length", isConstant(length));
            }
            return super.visitNewArray(tree, method);
        }

        @Override
        public Void visitTypeCast(TypeCastTree tree, String method) {
            yes(tree + " is a cast of numbers", tree.getType().getKind() == Tree.Kind.PRIMITIVE_TYPE);
            return super.visitTypeCast(tree, method);
        }

        @Override
        public Void visitBinary(BinaryTree tree, String method) {
            TypeMirror left = trees.getTypeMirror(new TreePath(getCurrentPath(), tree.getLeftOperand()));
            TypeMirror right = trees.getTypeMirror(new TreePath(getCurrentPath(), tree.getRightOperand()));
            yes(tree + " works on numbers", left.getKind().isPrimitive() && right.getKind().isPrimitive());
            return super.visitBinary(tree, method);
        }

        @Override
        public Void visitMethodInvocation(MethodInvocationTree tree, String method) {
            Element called = trees.getElement(new TreePath(getCurrentPath(), tree.getMethodSelect()));
            String name = name(called);
            if (name.startsWith("NineInMind.")) {
                CALLS.computeIfAbsent(method, key -> new TreeSet<>()).add(name);
            } else if (!name.equals("java.lang.Object.Object()")) {
                yes(name + " is in the library that may be used", LIBRARY.contains(name));
            }
            return super.visitMethodInvocation(tree, method);
        }

        private static String name(Element element) {
            String owner = element.getEnclosingElement().toString();
            boolean made = element.getKind() == ElementKind.CONSTRUCTOR;
            return owner + "." + (made ? owner.substring(owner.lastIndexOf('.') + 1) + "()" : element.toString());
        }

        /** No method: a field's own initialiser. */
        private static boolean isConstructor(String method) {
            return method == null || OWN.get(method).getKind() == ElementKind.CONSTRUCTOR;
        }

        private boolean isConstant(Tree length) {
            Tree.Kind kind = length.getKind();
            if (length instanceof BinaryTree) {
                return isConstant(((BinaryTree) length).getLeftOperand())
                        && isConstant(((BinaryTree) length).getRightOperand());
            }
            return kind == Tree.Kind.INT_LITERAL
                    || kind == Tree.Kind.IDENTIFIER && length.toString().startsWith("MOST_");
        }

        private static boolean isPlain(TypeMirror type) {
            if (type.getKind() == TypeKind.ARRAY) {
                return isPlain(((ArrayType) type).getComponentType());
            }
            return type.getKind().isPrimitive() || type.toString().equals("java.lang.String")
                    || type.toString().startsWith("NineInMind.");
        }
    }
}
