import com.sun.source.tree.*;
import com.sun.source.util.JavacTask;
import com.sun.source.util.TreePath;
import com.sun.source.util.TreePathScanner;
import com.sun.source.util.Trees;
import java.io.File;
import java.io.IOException;
import java.nio.file.Files;
import java.nio.file.Path;
import java.util.ArrayList;
import java.util.Arrays;
import java.util.Collections;
import java.util.EnumSet;
import java.util.HashMap;
import java.util.HashSet;
import java.util.List;
import java.util.Map;
import java.util.Set;
import java.util.TreeSet;
import javax.lang.model.element.Element;
import javax.lang.model.element.ElementKind;
import javax.lang.model.element.ExecutableElement;
import javax.lang.model.element.Modifier;
import javax.tools.JavaCompiler;
import javax.tools.StandardJavaFileManager;
import javax.tools.ToolProvider;

/** The rules of LANGUAGE.md that a reader of the file can tell, and the face of DOC.md. */
public final class RulesTest {
    private static final String FILE = "src/main/java/LeapingPassages.java";
    private static final Set<Tree.Kind> BARRED = EnumSet.of(
        Tree.Kind.LAMBDA_EXPRESSION, Tree.Kind.MEMBER_REFERENCE, Tree.Kind.TRY, Tree.Kind.THROW,
        Tree.Kind.SYNCHRONIZED, Tree.Kind.ASSERT, Tree.Kind.INSTANCE_OF, Tree.Kind.SWITCH_EXPRESSION,
        Tree.Kind.FLOAT_LITERAL, Tree.Kind.DOUBLE_LITERAL, Tree.Kind.STRING_LITERAL);
    private static final Set<String> LIBRARY = Set.of(
        "java.lang.Math.min(int,int)", "java.lang.Math.max(int,int)", "java.lang.Integer.bitCount(int)",
        "java.util.Arrays.fill(int[],int)", "java.util.Arrays.fill(long[],long)",
        "java.lang.System.arraycopy(java.lang.Object,int,java.lang.Object,int,int)");

    private static int wrong = 0;

    private static void check(boolean holds, String text) {
        if (!holds) {
            wrong++;
            System.out.println(text);
        }
    }

    /** The lines of the face, but for names of parameters. */
    private static Set<String> faceOfDoc(Path doc) throws IOException {
        Set<String> face = new TreeSet<>();
        boolean inside = false;
        for (String line : Files.readAllLines(doc)) {
            if (line.startsWith("public final class LeapingPassages {")) {
                inside = true;
            } else if (line.startsWith("}")) {
                inside = false;
            } else if (inside) {
                String bare = line.trim().replace(";", "");
                face.add(bare.replaceAll("(int|long) \\w+(?=[,)])", "$1").replaceAll(" = .*", ""));
            }
        }
        return face;
    }

    private static Set<String> faceOfClass() {
        Set<String> face = new TreeSet<>();
        Class<?> type = LeapingPassages.class;
        for (java.lang.reflect.Field field : type.getDeclaredFields()) {
            boolean isPrivate = java.lang.reflect.Modifier.isPrivate(field.getModifiers());
            if (!isPrivate) {
                face.add(java.lang.reflect.Modifier.toString(field.getModifiers()) + " " + field.getType() + " " + field.getName());
            }
        }
        for (java.lang.reflect.Constructor<?> constructor : type.getDeclaredConstructors()) {
            face.add("public LeapingPassages" + types(constructor.getParameterTypes()));
        }
        for (java.lang.reflect.Method method : type.getDeclaredMethods()) {
            if (!java.lang.reflect.Modifier.isPrivate(method.getModifiers())) {
                face.add(java.lang.reflect.Modifier.toString(method.getModifiers()) + " " + method.getReturnType() + " "
                    + method.getName() + types(method.getParameterTypes()));
            }
        }
        return face;
    }

    private static String types(Class<?>[] types) {
        List<String> names = new ArrayList<>();
        for (Class<?> type : types) {
            names.add(type.getName());
        }
        return "(" + String.join(", ", names) + ")";
    }

    /** Walks the file and notes what the rules speak of. */
    private static final class Walk extends TreePathScanner<Void, Void> {
        final Trees trees;
        final CompilationUnitTree unit;
        final Map<Element, Set<Element>> calls = new HashMap<>();
        final Set<String> face = new HashSet<>();
        final List<ExecutableElement> others = new ArrayList<>();
        int classes = 0;

        Walk(Trees trees, CompilationUnitTree unit) {
            this.trees = trees;
            this.unit = unit;
        }

        private long line(Tree tree, boolean end) {
            long at = end ? trees.getSourcePositions().getEndPosition(unit, tree)
                : trees.getSourcePositions().getStartPosition(unit, tree);
            return unit.getLineMap().getLineNumber(at);
        }

        @Override
        public Void scan(Tree tree, Void none) {
            if (tree != null) {
                check(!BARRED.contains(tree.getKind()), "line " + line(tree, false) + ": " + tree.getKind());
            }
            return super.scan(tree, none);
        }

        @Override
        public Void visitClass(ClassTree tree, Void none) {
            classes++;
            int fields = 0;
            Element element = trees.getElement(getCurrentPath());
            boolean isOuter = getCurrentPath().getParentPath().getLeaf() == unit;
            Set<Modifier> flags = element.getModifiers();
            check(isOuter ? flags.equals(EnumSet.of(Modifier.PUBLIC, Modifier.FINAL))
                : flags.contains(Modifier.STATIC) && !flags.contains(Modifier.PUBLIC) && !flags.contains(Modifier.PROTECTED),
                "class " + element + " is " + flags);
            for (Tree member : tree.getMembers()) {
                if (member instanceof VariableTree field) {
                    Set<Modifier> of = field.getModifiers().getFlags();
                    boolean isStatic = of.contains(Modifier.STATIC);
                    check(!isStatic || of.contains(Modifier.FINAL), "static field " + field.getName() + " isn't final");
                    fields += isStatic ? 0 : 1;
                } else {
                    check(!(member instanceof BlockTree), "line " + line(member, false) + ": an initialiser block");
                }
            }
            check(fields <= 20, "class " + element + " has " + fields + " fields");
            return super.visitClass(tree, none);
        }

        @Override
        public Void visitMethod(MethodTree tree, Void none) {
            ExecutableElement method = (ExecutableElement) trees.getElement(getCurrentPath());
            calls.computeIfAbsent(method, m -> new HashSet<>());
            check(tree.getParameters().size() <= 7, method + " has too many parameters");
            check(line(tree, true) - line(tree, false) < 60, method + " is too long");
            if (method.getModifiers().contains(Modifier.PUBLIC)) {
                face.add(method.getSimpleName().toString());
            } else if (method.getKind() == ElementKind.METHOD) {
                others.add(method);
            }
            return super.visitMethod(tree, none);
        }

        private Element caller() {
            for (TreePath path = getCurrentPath(); path != null; path = path.getParentPath()) {
                if (path.getLeaf() instanceof MethodTree) {
                    return trees.getElement(path);
                }
            }
            return null;
        }

        private void note(Tree tree, Element called) {
            boolean isOwn = called != null && trees.getTree(called) != null;
            String name = called == null ? "?" : called.getEnclosingElement() + "." + called;
            check(isOwn || LIBRARY.contains(name) || name.startsWith("java.lang.Object."), "line " + line(tree, false) + ": " + name);
            if (called != null && caller() != null) {
                calls.computeIfAbsent(caller(), m -> new HashSet<>()).add(called);
            }
        }

        @Override
        public Void visitMethodInvocation(MethodInvocationTree tree, Void none) {
            note(tree, trees.getElement(new TreePath(getCurrentPath(), tree.getMethodSelect())));
            return super.visitMethodInvocation(tree, none);
        }

        /** Objects and arrays are made with the object alone: what a run makes is counted. */
        private void madeOnlyAtFirst(Tree tree) {
            Element caller = caller();
            check(caller == null || caller.getKind() == ElementKind.CONSTRUCTOR, "line " + line(tree, false) + ": a call makes " + tree);
        }

        @Override
        public Void visitNewClass(NewClassTree tree, Void none) {
            madeOnlyAtFirst(tree);
            check(tree.getClassBody() == null, "line " + line(tree, false) + ": an anonymous class");
            return super.visitNewClass(tree, none);
        }

        @Override
        public Void visitNewArray(NewArrayTree tree, Void none) {
            madeOnlyAtFirst(tree);
            return super.visitNewArray(tree, none);
        }

        @Override
        public Void visitImport(ImportTree tree, Void none) {
            check(tree.getQualifiedIdentifier().toString().equals("java.util.Arrays"), "import " + tree);
            return null;
        }

        /** The longest chain of calls from a method on; recursion fails. */
        int depth(Element method, List<Element> open, Map<Element, Integer> known) {
            if (open.contains(method)) {
                check(false, "recursion: " + open + " " + method);
                return 0;
            }
            if (known.containsKey(method)) {
                return known.get(method);
            }
            open.add(method);
            int deepest = 0;
            for (Element called : calls.getOrDefault(method, Collections.emptySet())) {
                deepest = Math.max(deepest, depth(called, open, known));
            }
            open.remove(open.size() - 1);
            known.put(method, deepest + 1);
            return deepest + 1;
        }
    }

    private static void checkFile() throws IOException {
        JavaCompiler compiler = ToolProvider.getSystemJavaCompiler();
        try (StandardJavaFileManager files = compiler.getStandardFileManager(null, null, null)) {
            JavacTask task = (JavacTask) compiler.getTask(null, files, null, List.of("-proc:none"), null,
                files.getJavaFileObjects(new File(FILE)));
            CompilationUnitTree unit = task.parse().iterator().next();
            task.analyze();
            Walk walk = new Walk(Trees.instance(task), unit);
            check(unit.getPackageName() == null, "there is a package line");
            walk.scan(unit, null);
            check(walk.classes <= 12, walk.classes + " classes");
            for (ExecutableElement method : walk.others) {
                check(!walk.face.contains(method.getSimpleName().toString()), method + " bears the name of a public one");
            }
            Map<Element, Integer> known = new HashMap<>();
            for (Element method : new ArrayList<>(walk.calls.keySet())) {
                int depth = walk.depth(method, new ArrayList<>(), known);
                check(depth <= 8, method + " opens " + depth + " calls");
            }
        }
        for (byte sign : Files.readAllBytes(Path.of(FILE))) {
            check(sign == '\n' || sign >= 32 && sign < 127, "the file has a sign " + sign);
        }
    }

    public static void main(String[] args) throws IOException {
        check(faceOfDoc(Path.of("../shared/DOC.md")).equals(faceOfClass()), "the face is " + faceOfClass());
        checkFile();
        System.out.println(wrong == 0 ? "the rules hold" : wrong + " faults");
        if (wrong != 0) {
            System.exit(1);
        }
    }
}
