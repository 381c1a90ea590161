import com.sun.source.tree.AssertTree;
import com.sun.source.tree.ClassTree;
import com.sun.source.tree.CompilationUnitTree;
import com.sun.source.tree.ExpressionTree;
import com.sun.source.tree.ImportTree;
import com.sun.source.tree.LambdaExpressionTree;
import com.sun.source.tree.MemberReferenceTree;
import com.sun.source.tree.MethodInvocationTree;
import com.sun.source.tree.MethodTree;
import com.sun.source.tree.NewClassTree;
import com.sun.source.tree.SynchronizedTree;
import com.sun.source.tree.ThrowTree;
import com.sun.source.tree.Tree;
import com.sun.source.tree.TryTree;
import com.sun.source.tree.TypeCastTree;
import com.sun.source.tree.VariableTree;
import com.sun.source.util.JavacTask;
import com.sun.source.util.TreePathScanner;
import com.sun.source.util.Trees;
import java.io.File;
import java.lang.reflect.Constructor;
import java.lang.reflect.Field;
import java.lang.reflect.Method;
import java.lang.reflect.Modifier;
import java.nio.file.Files;
import java.nio.file.Path;
import java.util.ArrayList;
import java.util.HashMap;
import java.util.HashSet;
import java.util.LinkedHashMap;
import java.util.LinkedHashSet;
import java.util.List;
import java.util.Map;
import java.util.Set;
import java.util.TreeSet;
import java.util.regex.Matcher;
import java.util.regex.Pattern;
import javax.lang.model.element.Element;
import javax.lang.model.element.ExecutableElement;
import javax.tools.JavaCompiler;
import javax.tools.StandardJavaFileManager;
import javax.tools.ToolProvider;

/** The rules of LANGUAGE.md that a program can look after, and the face that DOC.md tells. */
public final class LanguageTest {
    private static final String SOURCE = "src/main/java/StoneRaised.java";
    private static final Set<String> LIBRARY = Set.of("String.length", "String.charAt", "Integer.bitCount",
        "Math.max", "Math.min", "Math.floorDiv", "Math.floorMod", "System.arraycopy", "Arrays.fill", "Word.values");

    private static final Map<String, Set<String>> calls = new LinkedHashMap<>();

    public static void main(String[] args) throws Exception {
        face();
        source();
        depths();
        Check.finish();
    }

    private static void bad(String what) {
        Check.due(what, 0, 1);
    }

    private static void face() throws Exception {
        String doc = Files.readString(Path.of("../shared/DOC.md"));
        String block = doc.substring(doc.indexOf("```java"), doc.indexOf("```", doc.indexOf("```java") + 3));
        Set<String> want = new TreeSet<>();
        Matcher m = Pattern.compile("public (?:static final )?(\\w+) (\\w+)(?:\\((.*?)\\))?[ ;=]").matcher(block);
        while (m.find()) {
            if (!m.group(1).equals("final")) {
                int commas = m.group(3) == null ? -1 : m.group(3).isBlank() ? 0 : m.group(3).split(",").length;
                want.add(m.group(1) + " " + m.group(2) + " " + commas);
            }
        }
        Set<String> got = new TreeSet<>();
        for (Method method : StoneRaised.class.getDeclaredMethods()) {
            if (!Modifier.isPrivate(method.getModifiers()) && !method.isSynthetic()) {
                got.add(method.getReturnType() + " " + method.getName() + " " + method.getParameterCount());
                Check.due(method + " is public", true, Modifier.isPublic(method.getModifiers()));
            }
        }
        for (Field field : StoneRaised.class.getDeclaredFields()) {
            if (!Modifier.isPrivate(field.getModifiers()) && !field.isSynthetic()) {
                got.add(field.getType() + " " + field.getName() + " -1");
            }
        }
        Constructor<?>[] made = StoneRaised.class.getDeclaredConstructors();
        Check.due("constructors", 1, made.length);
        Check.due("its parameters", 0, made[0].getParameterCount());
        Check.due("the class is public and final", Modifier.PUBLIC | Modifier.FINAL, StoneRaised.class.getModifiers());
        if (!want.equals(got) || want.size() != 34) {
            bad("the face is " + got + ", due is " + want);
        }
    }

    private static void source() throws Exception {
        JavaCompiler compiler = ToolProvider.getSystemJavaCompiler();
        try (StandardJavaFileManager files = compiler.getStandardFileManager(null, null, null)) {
            JavacTask task = (JavacTask) compiler.getTask(null, files, null, List.of("-proc:none"), null,
                files.getJavaFileObjects(new File(SOURCE)));
            CompilationUnitTree unit = task.parse().iterator().next();
            task.analyze();
            new Rules(unit, Trees.instance(task)).scan(unit, null);
        }
    }

    /** The longest way down, methods that call one another counted as one. */
    private static void depths() {
        Map<String, Set<String>> reach = new HashMap<>();
        for (String from : calls.keySet()) {
            Set<String> seen = new HashSet<>();
            List<String> todo = new ArrayList<>(calls.get(from));
            while (!todo.isEmpty()) {
                String next = todo.remove(todo.size() - 1);
                if (seen.add(next)) {
                    todo.addAll(calls.getOrDefault(next, Set.of()));
                }
            }
            reach.put(from, seen);
        }
        Map<String, Integer> known = new HashMap<>();
        for (String from : calls.keySet()) {
            int deep = deep(from, reach, known);
            if (deep > 8) {
                bad(from + " goes " + deep + " deep");
            }
        }
        Set<String> rounds = new TreeSet<>();
        reach.forEach((from, to) -> {
            if (to.contains(from)) {
                rounds.add(from);
            }
        });
        System.out.println("methods that call one another: " + rounds);
        System.out.println("deepest: " + known.values().stream().mapToInt(v -> v).max().orElse(0));
    }

    private static int deep(String from, Map<String, Set<String>> reach, Map<String, Integer> known) {
        Integer told = known.get(from);
        if (told != null) {
            return told;
        }
        Set<String> round = new LinkedHashSet<>(Set.of(from));
        for (String other : reach.getOrDefault(from, Set.of())) {
            if (reach.getOrDefault(other, Set.of()).contains(from)) {
                round.add(other);
            }
        }
        int most = 0;
        for (String one : round) {
            for (String next : calls.getOrDefault(one, Set.of())) {
                if (!round.contains(next)) {
                    most = Math.max(most, deep(next, reach, known));
                }
            }
        }
        for (String one : round) {
            known.put(one, most + 1);
        }
        return most + 1;
    }

    private static final class Rules extends TreePathScanner<Void, Void> {
        private final CompilationUnitTree unit;
        private final Trees trees;
        private String method = "";
        private int classes;

        Rules(CompilationUnitTree unit, Trees trees) {
            this.unit = unit;
            this.trees = trees;
        }

        private long line(long position) {
            return unit.getLineMap().getLineNumber(position);
        }

        private void refuse(Tree tree, String why) {
            bad("line " + line(trees.getSourcePositions().getStartPosition(unit, tree)) + ": " + why);
        }

        @Override
        public Void visitCompilationUnit(CompilationUnitTree tree, Void v) {
            super.visitCompilationUnit(tree, v);
            Check.due("more than 12 classes", false, classes > 12);
            return null;
        }

        @Override
        public Void visitImport(ImportTree tree, Void v) {
            Check.due("import " + tree.getQualifiedIdentifier(), true,
                tree.getQualifiedIdentifier().toString().equals("java.util.Arrays"));
            return null;
        }

        @Override
        public Void visitClass(ClassTree tree, Void v) {
            classes++;
            boolean inMethod = !(getCurrentPath().getParentPath().getLeaf() instanceof ClassTree)
                && !(getCurrentPath().getParentPath().getLeaf() instanceof CompilationUnitTree);
            if (inMethod) {
                refuse(tree, "a class inside a method");
            }
            int fields = 0;
            for (Tree member : tree.getMembers()) {
                if (member instanceof VariableTree field) {
                    boolean isStatic = field.getModifiers().toString().contains("static");
                    fields += isStatic || tree.getKind() == Tree.Kind.ENUM ? 0 : 1;
                    if (isStatic && !field.getModifiers().toString().contains("final")) {
                        refuse(field, "a static field that is not final");
                    }
                }
            }
            Check.due(tree.getSimpleName() + " has more than 20 fields", false, fields > 20);
            return super.visitClass(tree, v);
        }

        @Override
        public Void visitMethod(MethodTree tree, Void v) {
            String before = method;
            method = nameOf(trees.getElement(getCurrentPath()));
            calls.putIfAbsent(method, new LinkedHashSet<>());
            long from = line(trees.getSourcePositions().getStartPosition(unit, tree));
            long till = line(Math.max(0, trees.getSourcePositions().getEndPosition(unit, tree)));
            Check.due(method + " is longer than 60 lines", false, till - from + 1 > 60);
            Check.due(method + " has more than 7 parameters", false, tree.getParameters().size() > 7);
            boolean isFace = method.startsWith("StoneRaised.") && tree.getModifiers().toString().contains("public");
            if (!isFace) {
                for (Method face : StoneRaised.class.getMethods()) {
                    boolean own = face.getDeclaringClass() == StoneRaised.class;
                    if (own && face.getName().equals(tree.getName().toString())) {
                        refuse(tree, "a method named as one of the face");
                    }
                }
            }
            super.visitMethod(tree, v);
            method = before;
            return null;
        }

        private String nameOf(Element element) {
            ExecutableElement one = (ExecutableElement) element;
            return one.getEnclosingElement().getSimpleName() + "." + one.getSimpleName() + "/" + one.getParameters().size();
        }

        private void call(Element element, Tree tree) {
            if (!(element instanceof ExecutableElement one)) {
                return;
            }
            String owner = one.getEnclosingElement().toString();
            if (owner.startsWith("StoneRaised")) {
                calls.computeIfAbsent(method, k -> new LinkedHashSet<>()).add(nameOf(element));
            } else if (one.getSimpleName().contentEquals("<init>")) {
                Check.due("new " + owner, true, owner.equals("java.lang.Object") || owner.equals("java.lang.Enum"));
            } else {
                String name = one.getEnclosingElement().getSimpleName() + "." + one.getSimpleName();
                if (!LIBRARY.contains(name)) {
                    refuse(tree, "the library's " + name);
                }
            }
        }

        @Override
        public Void visitMethodInvocation(MethodInvocationTree tree, Void v) {
            call(trees.getElement(getCurrentPath()), tree);
            return super.visitMethodInvocation(tree, v);
        }

        @Override
        public Void visitNewClass(NewClassTree tree, Void v) {
            call(trees.getElement(getCurrentPath()), tree);
            if (tree.getClassBody() != null) {
                refuse(tree, "a class without a name");
            }
            return super.visitNewClass(tree, v);
        }

        @Override
        public Void visitTypeCast(TypeCastTree tree, Void v) {
            ExpressionTree of = tree.getExpression();
            if (!Set.of("int", "byte", "char", "long").contains(tree.getType().toString())) {
                refuse(of, "a cast to " + tree.getType());
            }
            return super.visitTypeCast(tree, v);
        }

        @Override
        public Void visitThrow(ThrowTree tree, Void v) {
            refuse(tree, "throw");
            return null;
        }

        @Override
        public Void visitTry(TryTree tree, Void v) {
            refuse(tree, "try");
            return null;
        }

        @Override
        public Void visitAssert(AssertTree tree, Void v) {
            refuse(tree, "assert");
            return null;
        }

        @Override
        public Void visitSynchronized(SynchronizedTree tree, Void v) {
            refuse(tree, "synchronized");
            return null;
        }

        @Override
        public Void visitLambdaExpression(LambdaExpressionTree tree, Void v) {
            refuse(tree, "a lambda");
            return null;
        }

        @Override
        public Void visitMemberReference(MemberReferenceTree tree, Void v) {
            refuse(tree, "a method reference");
            return null;
        }
    }
}
